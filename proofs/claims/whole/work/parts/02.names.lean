-- printed by wip/whole/gen.py: the classes, their fields by slots, links, methods
def pn_own : Nat → String := fun k => match k with
  | 0 => "NoThreeModel"
  | 1 => "NoThree$Annals"
  | 2 => "NoThree$Council"
  | 3 => "NoThree$Feasts"
  | 4 => "NoThree$Gossip"
  | 5 => "NoThree$Healer"
  | 6 => "NoThree$Kin"
  | 7 => "NoThree$Market"
  | 8 => "NoThree$Painter"
  | 9 => "NoThree$Reader"
  | 10 => "NoThree$Rules"
  | 11 => "NoThree$Town"
  | 12 => "NoThree"
  | 20 => "java/lang/Math"
  | 21 => "java/lang/Integer"
  | 22 => "java/util/Arrays"
  | 23 => "java/lang/String"
  | 24 => "java/lang/StringLatin1"
  | 25 => "jdk/internal/util/Preconditions"
  | 30 => "NoThreeLaw"
  | _ => "java/lang/Object"
def pn_T0 : u_T := fun k => match k with
  | 0 => ("NoThreeModel", "thrown", "I", false)
  | 1 => ("NoThreeModel", "all", "[I", true)
  | 2 => ("NoThreeModel", "hasImage", "[Z", true)
  | 3 => ("NoThreeModel", "tape", "[I", true)
  | 4 => ("NoThreeModel", "fresh", "[I", true)
  | 5 => ("NoThreeModel", "taped", "I", false)
  | 6 => ("NoThreeModel", "at", "I", false)
  | 7 => ("NoThreeModel", "behind", "I", false)
  | 8 => ("NoThreeModel", "size", "I", false)
  | 9 => ("NoThreeModel", "kind", "I", false)
  | 10 => ("NoThreeModel", "number", "I", false)
  | 11 => ("NoThreeModel", "wrong", "I", false)
  | 12 => ("NoThreeModel", "wrongAt", "I", false)
  | 13 => ("NoThreeModel", "faultKind", "I", false)
  | 14 => ("NoThreeModel", "faultPlace", "I", false)
  | 15 => ("NoThreeModel", "far", "[I", true)
  | 16 => ("NoThreeModel", "colourOf", "[I", true)
  | 17 => ("NoThreeModel", "reckoned", "[I", true)
  | 18 => ("NoThreeModel", "town", "[I", true)
  | 19 => ("NoThreeModel", "held", "[I", true)
  | 20 => ("NoThreeModel", "tried", "[I", true)
  | 21 => ("NoThreeModel", "why1", "I", false)
  | 22 => ("NoThreeModel", "x", "I", false)
  | 23 => ("NoThreeModel", "waysOf", "[J", true)
  | 24 => ("NoThreeModel", "waysMore", "[J", true)
  | 25 => ("NoThreeModel", "knows", "[Z", true)
  | 26 => ("NoThreeModel", "knew", "[Z", true)
  | 27 => ("NoThreeModel", "placeOf", "[I", true)
  | 28 => ("NoThreeModel", "other", "[I", true)
  | 29 => ("NoThreeModel", "found", "I", false)
  | 30 => ("NoThreeModel", "otherMany", "I", false)
  | 31 => ("NoThreeModel", "cureOf", "[I", true)
  | 32 => ("NoThreeModel", "threeFirst", "I", false)
  | 33 => ("NoThreeModel", "threeSecond", "I", false)
  | 34 => ("NoThreeModel", "threeThird", "I", false)
  | 35 => ("NoThreeModel", "rowSort", "[I", true)
  | 36 => ("NoThreeModel", "rowMany", "[I", true)
  | _ => ("NoThreeModel", "numbers", "[J", true)
def pn_ty0 : Nat → FieldType := fun k => match k with
  | 0 => .int
  | 1 => .array .int
  | 2 => .array .boolean
  | 3 => .array .int
  | 4 => .array .int
  | 5 => .int
  | 6 => .int
  | 7 => .int
  | 8 => .int
  | 9 => .int
  | 10 => .int
  | 11 => .int
  | 12 => .int
  | 13 => .int
  | 14 => .int
  | 15 => .array .int
  | 16 => .array .int
  | 17 => .array .int
  | 18 => .array .int
  | 19 => .array .int
  | 20 => .array .int
  | 21 => .int
  | 22 => .int
  | 23 => .array .long
  | 24 => .array .long
  | 25 => .array .boolean
  | 26 => .array .boolean
  | 27 => .array .int
  | 28 => .array .int
  | 29 => .int
  | 30 => .int
  | 31 => .array .int
  | 32 => .int
  | 33 => .int
  | 34 => .int
  | 35 => .array .int
  | 36 => .array .int
  | _ => .array .long
theorem pn_nm0 : ∀ a, a < 38 → ∀ b, b < 38 → a ≠ b → (pn_T0 a).2.1 ≠ (pn_T0 b).2.1 := by decide +kernel
theorem pn_tok0 : ∀ k, k < 38 → parseFieldDescriptor (pn_T0 k).2.2.1 = some (pn_ty0 k) := by decide +kernel
theorem pn_in0 : ∀ w ∈ u_ws "NoThreeModel" pn_T0 38, w ∈ lw_tbl.filter goodWord := by decide +kernel
def pn_T1 : u_T := fun k => match k with
  | 0 => ("NoThree$Annals", "town", "LNoThree$Town;", true)
  | 1 => ("NoThree$Annals", "rules", "LNoThree$Rules;", true)
  | 2 => ("NoThree$Annals", "lines", "I", false)
  | 3 => ("NoThree$Annals", "deeds", "I", false)
  | 4 => ("NoThree$Annals", "latest", "I", false)
  | _ => ("NoThree$Annals", "past", "[I", true)
def pn_ty1 : Nat → FieldType := fun k => match k with
  | 0 => .object "NoThree$Town"
  | 1 => .object "NoThree$Rules"
  | 2 => .int
  | 3 => .int
  | 4 => .int
  | _ => .array .int
theorem pn_nm1 : ∀ a, a < 6 → ∀ b, b < 6 → a ≠ b → (pn_T1 a).2.1 ≠ (pn_T1 b).2.1 := by decide +kernel
theorem pn_tok1 : ∀ k, k < 6 → parseFieldDescriptor (pn_T1 k).2.2.1 = some (pn_ty1 k) := by decide +kernel
theorem pn_in1 : ∀ w ∈ u_ws "NoThree$Annals" pn_T1 6, w ∈ lw_tbl.filter goodWord := by decide +kernel
def pn_T2 : u_T := fun k => match k with
  | 0 => ("NoThree$Council", "painter", "LNoThree$Painter;", true)
  | 1 => ("NoThree$Council", "trial", "LNoThree$Town;", true)
  | 2 => ("NoThree$Council", "stack", "[I", true)
  | 3 => ("NoThree$Council", "holding", "[I", true)
  | 4 => ("NoThree$Council", "meanings", "[I", true)
  | 5 => ("NoThree$Council", "rules", "LNoThree$Rules;", false)
  | 6 => ("NoThree$Council", "town", "LNoThree$Town;", false)
  | 7 => ("NoThree$Council", "asked", "LNoThree$Town;", false)
  | 8 => ("NoThree$Council", "known", "I", false)
  | _ => ("NoThree$Council", "surveyed", "Z", false)
def pn_ty2 : Nat → FieldType := fun k => match k with
  | 0 => .object "NoThree$Painter"
  | 1 => .object "NoThree$Town"
  | 2 => .array .int
  | 3 => .array .int
  | 4 => .array .int
  | 5 => .object "NoThree$Rules"
  | 6 => .object "NoThree$Town"
  | 7 => .object "NoThree$Town"
  | 8 => .int
  | _ => .boolean
theorem pn_nm2 : ∀ a, a < 10 → ∀ b, b < 10 → a ≠ b → (pn_T2 a).2.1 ≠ (pn_T2 b).2.1 := by decide +kernel
theorem pn_tok2 : ∀ k, k < 10 → parseFieldDescriptor (pn_T2 k).2.2.1 = some (pn_ty2 k) := by decide +kernel
theorem pn_in2 : ∀ w ∈ u_ws "NoThree$Council" pn_T2 10, w ∈ lw_tbl.filter goodWord := by decide +kernel
def pn_T3 : u_T := fun k => match k with
  | 0 => ("NoThree$Feasts", "around", "[I", true)
  | _ => ("NoThree$Feasts", "all", "I", false)
def pn_ty3 : Nat → FieldType := fun k => match k with
  | 0 => .array .int
  | _ => .int
theorem pn_nm3 : ∀ a, a < 2 → ∀ b, b < 2 → a ≠ b → (pn_T3 a).2.1 ≠ (pn_T3 b).2.1 := by decide +kernel
theorem pn_tok3 : ∀ k, k < 2 → parseFieldDescriptor (pn_T3 k).2.2.1 = some (pn_ty3 k) := by decide +kernel
theorem pn_in3 : ∀ w ∈ u_ws "NoThree$Feasts" pn_T3 2, w ∈ lw_tbl.filter goodWord := by decide +kernel
def pn_T4 : u_T := fun k => match k with
  | 0 => ("NoThree$Gossip", "sets", "LNoThree$Feasts;", true)
  | 1 => ("NoThree$Gossip", "lost", "[I", true)
  | 2 => ("NoThree$Gossip", "elders", "[I", true)
  | 3 => ("NoThree$Gossip", "town", "LNoThree$Town;", false)
  | _ => ("NoThree$Gossip", "goal", "I", false)
def pn_ty4 : Nat → FieldType := fun k => match k with
  | 0 => .object "NoThree$Feasts"
  | 1 => .array .int
  | 2 => .array .int
  | 3 => .object "NoThree$Town"
  | _ => .int
theorem pn_nm4 : ∀ a, a < 5 → ∀ b, b < 5 → a ≠ b → (pn_T4 a).2.1 ≠ (pn_T4 b).2.1 := by decide +kernel
theorem pn_tok4 : ∀ k, k < 5 → parseFieldDescriptor (pn_T4 k).2.2.1 = some (pn_ty4 k) := by decide +kernel
theorem pn_in4 : ∀ w ∈ u_ws "NoThree$Gossip" pn_T4 5, w ∈ lw_tbl.filter goodWord := by decide +kernel
def pn_T5 : u_T := fun k => match k with
  | 0 => ("NoThree$Healer", "patient", "LNoThree$Town;", true)
  | _ => ("NoThree$Healer", "best", "J", false)
def pn_ty5 : Nat → FieldType := fun k => match k with
  | 0 => .object "NoThree$Town"
  | _ => .long
theorem pn_nm5 : ∀ a, a < 2 → ∀ b, b < 2 → a ≠ b → (pn_T5 a).2.1 ≠ (pn_T5 b).2.1 := by decide +kernel
theorem pn_tok5 : ∀ k, k < 2 → parseFieldDescriptor (pn_T5 k).2.2.1 = some (pn_ty5 k) := by decide +kernel
theorem pn_in5 : ∀ w ∈ u_ws "NoThree$Healer" pn_T5 2, w ∈ lw_tbl.filter goodWord := by decide +kernel
def pn_T6 : u_T := fun k => match k with
  | 0 => ("NoThree$Kin", "match", "[I", true)
  | 1 => ("NoThree$Kin", "one", "LNoThree$Town;", false)
  | 2 => ("NoThree$Kin", "other", "LNoThree$Town;", false)
  | _ => ("NoThree$Kin", "least", "I", false)
def pn_ty6 : Nat → FieldType := fun k => match k with
  | 0 => .array .int
  | 1 => .object "NoThree$Town"
  | 2 => .object "NoThree$Town"
  | _ => .int
theorem pn_nm6 : ∀ a, a < 4 → ∀ b, b < 4 → a ≠ b → (pn_T6 a).2.1 ≠ (pn_T6 b).2.1 := by decide +kernel
theorem pn_tok6 : ∀ k, k < 4 → parseFieldDescriptor (pn_T6 k).2.2.1 = some (pn_ty6 k) := by decide +kernel
theorem pn_in6 : ∀ w ∈ u_ws "NoThree$Kin" pn_T6 4, w ∈ lw_tbl.filter goodWord := by decide +kernel
def pn_T7 : u_T := fun k => match k with
  | 0 => ("NoThree$Market", "scene", "LNoThree$Town;", true)
  | _ => ("NoThree$Market", "trial", "LNoThree$Town;", true)
def pn_ty7 : Nat → FieldType := fun k => match k with
  | 0 => .object "NoThree$Town"
  | _ => .object "NoThree$Town"
theorem pn_nm7 : ∀ a, a < 2 → ∀ b, b < 2 → a ≠ b → (pn_T7 a).2.1 ≠ (pn_T7 b).2.1 := by decide +kernel
theorem pn_tok7 : ∀ k, k < 2 → parseFieldDescriptor (pn_T7 k).2.2.1 = some (pn_ty7 k) := by decide +kernel
theorem pn_in7 : ∀ w ∈ u_ws "NoThree$Market" pn_T7 2, w ∈ lw_tbl.filter goodWord := by decide +kernel
def pn_T8 : u_T := fun k => match k with
  | 0 => ("NoThree$Painter", "wearers", "[I", true)
  | 1 => ("NoThree$Painter", "sketch", "[I", true)
  | _ => ("NoThree$Painter", "town", "LNoThree$Town;", false)
def pn_ty8 : Nat → FieldType := fun k => match k with
  | 0 => .array .int
  | 1 => .array .int
  | _ => .object "NoThree$Town"
theorem pn_nm8 : ∀ a, a < 3 → ∀ b, b < 3 → a ≠ b → (pn_T8 a).2.1 ≠ (pn_T8 b).2.1 := by decide +kernel
theorem pn_tok8 : ∀ k, k < 3 → parseFieldDescriptor (pn_T8 k).2.2.1 = some (pn_ty8 k) := by decide +kernel
theorem pn_in8 : ∀ w ∈ u_ws "NoThree$Painter" pn_T8 3, w ∈ lw_tbl.filter goodWord := by decide +kernel
def pn_T9 : u_T := fun k => match k with
  | 0 => ("NoThree$Reader", "onTape", "I", false)
  | 1 => ("NoThree$Reader", "faultKind", "I", false)
  | 2 => ("NoThree$Reader", "faultPlace", "I", false)
  | 3 => ("NoThree$Reader", "draft", "LNoThree$Annals;", true)
  | 4 => ("NoThree$Reader", "tape", "[B", true)
  | 5 => ("NoThree$Reader", "tokens", "[I", true)
  | 6 => ("NoThree$Reader", "places", "[I", true)
  | 7 => ("NoThree$Reader", "end", "I", false)
  | 8 => ("NoThree$Reader", "next", "I", false)
  | _ => ("NoThree$Reader", "token", "I", false)
def pn_ty9 : Nat → FieldType := fun k => match k with
  | 0 => .int
  | 1 => .int
  | 2 => .int
  | 3 => .object "NoThree$Annals"
  | 4 => .array .byte
  | 5 => .array .int
  | 6 => .array .int
  | 7 => .int
  | 8 => .int
  | _ => .int
theorem pn_nm9 : ∀ a, a < 10 → ∀ b, b < 10 → a ≠ b → (pn_T9 a).2.1 ≠ (pn_T9 b).2.1 := by decide +kernel
theorem pn_tok9 : ∀ k, k < 10 → parseFieldDescriptor (pn_T9 k).2.2.1 = some (pn_ty9 k) := by decide +kernel
theorem pn_in9 : ∀ w ∈ u_ws "NoThree$Reader" pn_T9 10, w ∈ lw_tbl.filter goodWord := by decide +kernel
def pn_T10 : u_T := fun k => match k with
  | 0 => ("NoThree$Rules", "number", "I", false)
  | 1 => ("NoThree$Rules", "starts", "[I", true)
  | 2 => ("NoThree$Rules", "uses", "[I", true)
  | 3 => ("NoThree$Rules", "code", "[I", true)
  | _ => ("NoThree$Rules", "length", "I", false)
def pn_ty10 : Nat → FieldType := fun k => match k with
  | 0 => .int
  | 1 => .array .int
  | 2 => .array .int
  | 3 => .array .int
  | _ => .int
theorem pn_nm10 : ∀ a, a < 5 → ∀ b, b < 5 → a ≠ b → (pn_T10 a).2.1 ≠ (pn_T10 b).2.1 := by decide +kernel
theorem pn_tok10 : ∀ k, k < 5 → parseFieldDescriptor (pn_T10 k).2.2.1 = some (pn_ty10 k) := by decide +kernel
theorem pn_in10 : ∀ w ∈ u_ws "NoThree$Rules" pn_T10 5, w ∈ lw_tbl.filter goodWord := by decide +kernel
def pn_T11 : u_T := fun k => match k with
  | 0 => ("NoThree$Town", "houses", "I", false)
  | _ => ("NoThree$Town", "near", "[I", true)
def pn_ty11 : Nat → FieldType := fun k => match k with
  | 0 => .int
  | _ => .array .int
theorem pn_nm11 : ∀ a, a < 2 → ∀ b, b < 2 → a ≠ b → (pn_T11 a).2.1 ≠ (pn_T11 b).2.1 := by decide +kernel
theorem pn_tok11 : ∀ k, k < 2 → parseFieldDescriptor (pn_T11 k).2.2.1 = some (pn_ty11 k) := by decide +kernel
theorem pn_in11 : ∀ w ∈ u_ws "NoThree$Town" pn_T11 2, w ∈ lw_tbl.filter goodWord := by decide +kernel
def pn_T12 : u_T := fun k => match k with
  | 0 => ("NoThree", "now", "LNoThree$Annals;", true)
  | 1 => ("NoThree", "firstImage", "LNoThree$Annals;", true)
  | 2 => ("NoThree", "secondImage", "LNoThree$Annals;", true)
  | 3 => ("NoThree", "imageMade", "[Z", true)
  | 4 => ("NoThree", "reader", "LNoThree$Reader;", true)
  | 5 => ("NoThree", "feasting", "LNoThree$Feasts;", true)
  | 6 => ("NoThree", "painter", "LNoThree$Painter;", true)
  | 7 => ("NoThree", "gossip", "LNoThree$Gossip;", true)
  | 8 => ("NoThree", "kin", "LNoThree$Kin;", true)
  | 9 => ("NoThree", "healer", "LNoThree$Healer;", true)
  | 10 => ("NoThree", "council", "LNoThree$Council;", true)
  | 11 => ("NoThree", "market", "LNoThree$Market;", true)
  | 12 => ("NoThree", "asIf", "LNoThree$Town;", true)
  | 13 => ("NoThree", "rowNumbers", "[J", true)
  | 14 => ("NoThree", "rowSorts", "[I", true)
  | _ => ("NoThree", "rowSizes", "[I", true)
def pn_ty12 : Nat → FieldType := fun k => match k with
  | 0 => .object "NoThree$Annals"
  | 1 => .object "NoThree$Annals"
  | 2 => .object "NoThree$Annals"
  | 3 => .array .boolean
  | 4 => .object "NoThree$Reader"
  | 5 => .object "NoThree$Feasts"
  | 6 => .object "NoThree$Painter"
  | 7 => .object "NoThree$Gossip"
  | 8 => .object "NoThree$Kin"
  | 9 => .object "NoThree$Healer"
  | 10 => .object "NoThree$Council"
  | 11 => .object "NoThree$Market"
  | 12 => .object "NoThree$Town"
  | 13 => .array .long
  | 14 => .array .int
  | _ => .array .int
theorem pn_nm12 : ∀ a, a < 16 → ∀ b, b < 16 → a ≠ b → (pn_T12 a).2.1 ≠ (pn_T12 b).2.1 := by decide +kernel
theorem pn_tok12 : ∀ k, k < 16 → parseFieldDescriptor (pn_T12 k).2.2.1 = some (pn_ty12 k) := by decide +kernel
theorem pn_in12 : ∀ w ∈ u_ws "NoThree" pn_T12 16, w ∈ lw_tbl.filter goodWord := by decide +kernel
/-- the classes of the worlds: number, name, fields -/
def pn_cl : List vw_C := [("NoThreeModel", pn_T0, 38), ("NoThree$Annals", pn_T1, 6), ("NoThree$Council", pn_T2, 10), ("NoThree$Feasts", pn_T3, 2), ("NoThree$Gossip", pn_T4, 5), ("NoThree$Healer", pn_T5, 2), ("NoThree$Kin", pn_T6, 4), ("NoThree$Market", pn_T7, 2), ("NoThree$Painter", pn_T8, 3), ("NoThree$Reader", pn_T9, 10), ("NoThree$Rules", pn_T10, 5), ("NoThree$Town", pn_T11, 2), ("NoThree", pn_T12, 16)]
/-- the kinds of a class's fields: 0 int, 1 long, 2 reference, 3 boolean -/
def pn_fk : Nat → List Nat := fun k => match k with
  | 0 => [0, 2, 2, 2, 2, 0, 0, 0, 0, 0, 0, 0, 0, 0, 0, 2, 2, 2, 2, 2, 2, 0, 0, 2, 2, 2, 2, 2, 2, 0, 0, 2, 0, 0, 0, 2, 2, 2]
  | 1 => [2, 2, 0, 0, 0, 2]
  | 2 => [2, 2, 2, 2, 2, 2, 2, 2, 0, 3]
  | 3 => [2, 0]
  | 4 => [2, 2, 2, 2, 0]
  | 5 => [2, 1]
  | 6 => [2, 2, 2, 0]
  | 7 => [2, 2]
  | 8 => [2, 2, 2]
  | 9 => [0, 0, 0, 2, 2, 2, 2, 0, 0, 0]
  | 10 => [0, 2, 2, 2, 0]
  | 11 => [0, 2]
  | 12 => [2, 2, 2, 2, 2, 2, 2, 2, 2, 2, 2, 2, 2, 2, 2, 2]
  | _ => []
/-- methods by their keys: class number, name, bytes, locals, answer, the number of its parameters -/
abbrev pn_I : Type := Nat × MethodName × ByteArray × Nat × Option FieldType × Nat
def pn_i2 : pn_I := (0, ⟨"NoThreeModel", "within", "(JJJ)Z"⟩, prog_14_method_2_code, 6, (some .boolean), 3)
def pn_i3 : pn_I := (0, ⟨"NoThreeModel", "<init>", "()V"⟩, prog_14_method_3_code, 1, none, 0)
def pn_i4 : pn_I := (0, ⟨"NoThreeModel", "feed", "(IIIII)I"⟩, prog_14_method_4_code, 8, (some .int), 5)
def pn_i5 : pn_I := (0, ⟨"NoThreeModel", "see", "(I)I"⟩, prog_14_method_5_code, 2, (some .int), 1)
def pn_i6 : pn_I := (0, ⟨"NoThreeModel", "isSmall", "(I)Z"⟩, prog_14_method_6_code, 1, (some .boolean), 1)
def pn_i7 : pn_I := (0, ⟨"NoThreeModel", "isDigit", "(I)Z"⟩, prog_14_method_7_code, 1, (some .boolean), 1)
def pn_i8 : pn_I := (0, ⟨"NoThreeModel", "keyAt", "()I"⟩, prog_14_method_8_code, 4, (some .int), 0)
def pn_i9 : pn_I := (0, ⟨"NoThreeModel", "next", "()V"⟩, prog_14_method_9_code, 2, none, 0)
def pn_i10 : pn_I := (0, ⟨"NoThreeModel", "fails", "(I)V"⟩, prog_14_method_10_code, 2, none, 1)
def pn_i11 : pn_I := (0, ⟨"NoThreeModel", "is", "(I)Z"⟩, prog_14_method_11_code, 2, (some .boolean), 1)
def pn_i12 : pn_I := (0, ⟨"NoThreeModel", "eats", "(I)Z"⟩, prog_14_method_12_code, 2, (some .boolean), 1)
def pn_i13 : pn_I := (0, ⟨"NoThreeModel", "takes", "(II)I"⟩, prog_14_method_13_code, 4, (some .int), 2)
def pn_i14 : pn_I := (0, ⟨"NoThreeModel", "isIn", "(JI)Z"⟩, prog_14_method_14_code, 3, (some .boolean), 2)
def pn_i15 : pn_I := (0, ⟨"NoThreeModel", "joins", "([III)V"⟩, prog_14_method_15_code, 3, none, 3)
def pn_i16 : pn_I := (0, ⟨"NoThreeModel", "readHouses", "()V"⟩, prog_14_method_16_code, 2, none, 0)
def pn_i17 : pn_I := (0, ⟨"NoThreeModel", "readDoor", "()V"⟩, prog_14_method_17_code, 3, none, 0)
def pn_i18 : pn_I := (0, ⟨"NoThreeModel", "readRing", "()V"⟩, prog_14_method_18_code, 6, none, 0)
def pn_i19 : pn_I := (0, ⟨"NoThreeModel", "codes", "(I)V"⟩, prog_14_method_19_code, 2, none, 1)
def pn_i20 : pn_I := (0, ⟨"NoThreeModel", "goesIn", "(I)Z"⟩, prog_14_method_20_code, 2, (some .boolean), 1)
def pn_i21 : pn_I := (0, ⟨"NoThreeModel", "readAtom", "(I)V"⟩, prog_14_method_21_code, 2, none, 1)
def pn_i22 : pn_I := (0, ⟨"NoThreeModel", "readTerm", "(I)V"⟩, prog_14_method_22_code, 2, none, 1)
def pn_i23 : pn_I := (0, ⟨"NoThreeModel", "readSum", "(I)V"⟩, prog_14_method_23_code, 3, none, 1)
def pn_i24 : pn_I := (0, ⟨"NoThreeModel", "readUnit", "(I)V"⟩, prog_14_method_24_code, 3, none, 1)
def pn_i25 : pn_I := (0, ⟨"NoThreeModel", "readBoth", "(I)V"⟩, prog_14_method_25_code, 2, none, 1)
def pn_i26 : pn_I := (0, ⟨"NoThreeModel", "readTruth", "(I)V"⟩, prog_14_method_26_code, 2, none, 1)
def pn_i27 : pn_I := (0, ⟨"NoThreeModel", "readRule", "()V"⟩, prog_14_method_27_code, 3, none, 0)
def pn_i28 : pn_I := (0, ⟨"NoThreeModel", "town", "(I)I"⟩, prog_14_method_28_code, 3, (some .int), 1)
def pn_i29 : pn_I := (0, ⟨"NoThreeModel", "fault", "(I)I"⟩, prog_14_method_29_code, 2, (some .int), 1)
def pn_i30 : pn_I := (0, ⟨"NoThreeModel", "isHouse", "(J)Z"⟩, prog_14_method_30_code, 3, (some .boolean), 1)
def pn_i31 : pn_I := (0, ⟨"NoThreeModel", "near", "(I)I"⟩, prog_14_method_31_code, 2, (some .int), 1)
def pn_i32 : pn_I := (0, ⟨"NoThreeModel", "bitsOf", "(I)I"⟩, prog_14_method_32_code, 3, (some .int), 1)
def pn_i33 : pn_I := (0, ⟨"NoThreeModel", "threesOf", "(I)I"⟩, prog_14_method_33_code, 4, (some .int), 1)
def pn_i34 : pn_I := (0, ⟨"NoThreeModel", "foursOf", "(I)I"⟩, prog_14_method_34_code, 5, (some .int), 1)
def pn_i35 : pn_I := (0, ⟨"NoThreeModel", "laysFar", "(I)I"⟩, prog_14_method_35_code, 7, (some .int), 1)
def pn_i36 : pn_I := (0, ⟨"NoThreeModel", "reachedFrom", "(I)I"⟩, prog_14_method_36_code, 4, (some .int), 1)
def pn_i37 : pn_I := (0, ⟨"NoThreeModel", "twoAway", "(I)I"⟩, prog_14_method_37_code, 4, (some .int), 1)
def pn_i38 : pn_I := (0, ⟨"NoThreeModel", "house", "(II)I"⟩, prog_14_method_38_code, 3, (some .int), 2)
def pn_i39 : pn_I := (0, ⟨"NoThreeModel", "steps", "(II)I"⟩, prog_14_method_39_code, 3, (some .int), 2)
def pn_i40 : pn_I := (0, ⟨"NoThreeModel", "isFeast", "(I)Z"⟩, prog_14_method_40_code, 3, (some .boolean), 1)
def pn_i41 : pn_I := (0, ⟨"NoThreeModel", "feastWith", "(I)I"⟩, prog_14_method_41_code, 4, (some .int), 1)
def pn_i42 : pn_I := (0, ⟨"NoThreeModel", "dyes", "(III)Z"⟩, prog_14_method_42_code, 7, (some .boolean), 3)
def pn_i43 : pn_I := (0, ⟨"NoThreeModel", "fewestColours", "(I)I"⟩, prog_14_method_43_code, 3, (some .int), 1)
def pn_i44 : pn_I := (0, ⟨"NoThreeModel", "halfOf", "()I"⟩, prog_14_method_44_code, 5, (some .int), 0)
def pn_i45 : pn_I := (0, ⟨"NoThreeModel", "doorMany", "()I"⟩, prog_14_method_45_code, 3, (some .int), 0)
def pn_i46 : pn_I := (0, ⟨"NoThreeModel", "wordOf", "(II)I"⟩, prog_14_method_46_code, 3, (some .int), 2)
def pn_i47 : pn_I := (0, ⟨"NoThreeModel", "between", "(III)I"⟩, prog_14_method_47_code, 5, (some .int), 3)
def pn_i48 : pn_I := (0, ⟨"NoThreeModel", "ruleHolds", "(II)Z"⟩, prog_14_method_48_code, 6, (some .boolean), 2)
def pn_i49 : pn_I := (0, ⟨"NoThreeModel", "holds", "(II)I"⟩, prog_14_method_49_code, 3, (some .int), 2)
def pn_i50 : pn_I := (0, ⟨"NoThreeModel", "broken", "(I)I"⟩, prog_14_method_50_code, 4, (some .int), 1)
def pn_i51 : pn_I := (0, ⟨"NoThreeModel", "breaches", "()I"⟩, prog_14_method_51_code, 4, (some .int), 0)
def pn_i52 : pn_I := (0, ⟨"NoThreeModel", "keeps", "([I)V"⟩, prog_14_method_52_code, 3, none, 1)
def pn_i53 : pn_I := (0, ⟨"NoThreeModel", "isAgain", "([I)V"⟩, prog_14_method_53_code, 3, none, 1)
def pn_i54 : pn_I := (0, ⟨"NoThreeModel", "heldBy", "(I)I"⟩, prog_14_method_54_code, 4, (some .int), 1)
def pn_i55 : pn_I := (0, ⟨"NoThreeModel", "laysHeld", "()V"⟩, prog_14_method_55_code, 2, none, 0)
def pn_i56 : pn_I := (0, ⟨"NoThreeModel", "stillHold", "(I)Z"⟩, prog_14_method_56_code, 4, (some .boolean), 1)
def pn_i57 : pn_I := (0, ⟨"NoThreeModel", "refusesJoin", "(JJ)I"⟩, prog_14_method_57_code, 8, (some .int), 2)
def pn_i58 : pn_I := (0, ⟨"NoThreeModel", "notes", "()V"⟩, prog_14_method_58_code, 2, none, 0)
def pn_i59 : pn_I := (0, ⟨"NoThreeModel", "walls", "(II)V"⟩, prog_14_method_59_code, 3, none, 2)
def pn_i60 : pn_I := (0, ⟨"NoThreeModel", "why", "(II)I"⟩, prog_14_method_60_code, 3, (some .int), 2)
def pn_i61 : pn_I := (0, ⟨"NoThreeModel", "join", "(II)I"⟩, prog_14_method_61_code, 4, (some .int), 2)
def pn_i62 : pn_I := (0, ⟨"NoThreeModel", "wall", "(II)I"⟩, prog_14_method_62_code, 3, (some .int), 2)
def pn_i63 : pn_I := (0, ⟨"NoThreeModel", "may", "(I)I"⟩, prog_14_method_63_code, 4, (some .int), 1)
def pn_i64 : pn_I := (0, ⟨"NoThreeModel", "enters", "(I)V"⟩, prog_14_method_64_code, 4, none, 1)
def pn_i65 : pn_I := (0, ⟨"NoThreeModel", "refusesEnter", "(J)I"⟩, prog_14_method_65_code, 5, (some .int), 1)
def pn_i66 : pn_I := (0, ⟨"NoThreeModel", "enter", "(I)I"⟩, prog_14_method_66_code, 3, (some .int), 1)
def pn_i67 : pn_I := (0, ⟨"NoThreeModel", "without", "(II)I"⟩, prog_14_method_67_code, 2, (some .int), 2)
def pn_i68 : pn_I := (0, ⟨"NoThreeModel", "leaves", "(I)V"⟩, prog_14_method_68_code, 3, none, 1)
def pn_i69 : pn_I := (0, ⟨"NoThreeModel", "leave", "(I)I"⟩, prog_14_method_69_code, 2, (some .int), 1)
def pn_i70 : pn_I := (0, ⟨"NoThreeModel", "weave", "()I"⟩, prog_14_method_70_code, 4, (some .int), 0)
def pn_i71 : pn_I := (0, ⟨"NoThreeModel", "undo", "(I)I"⟩, prog_14_method_71_code, 3, (some .int), 1)
def pn_i72 : pn_I := (0, ⟨"NoThreeModel", "actsOf", "(IZ)I"⟩, prog_14_method_72_code, 12, (some .int), 2)
def pn_i73 : pn_I := (0, ⟨"NoThreeModel", "threeMany", "()I"⟩, prog_14_method_73_code, 3, (some .int), 0)
def pn_i74 : pn_I := (0, ⟨"NoThreeModel", "judge", "(II)I"⟩, prog_14_method_74_code, 6, (some .int), 2)
def pn_i75 : pn_I := (0, ⟨"NoThreeModel", "perform", "(I)I"⟩, prog_14_method_75_code, 2, (some .int), 1)
def pn_i76 : pn_I := (0, ⟨"NoThreeModel", "growsBy", "()I"⟩, prog_14_method_76_code, 3, (some .int), 0)
def pn_i77 : pn_I := (0, ⟨"NoThreeModel", "grow", "(I)I"⟩, prog_14_method_77_code, 4, (some .int), 1)
def pn_i78 : pn_I := (0, ⟨"NoThreeModel", "draw", "(I)I"⟩, prog_14_method_78_code, 2, (some .int), 1)
def pn_i79 : pn_I := (0, ⟨"NoThreeModel", "century", "(II)I"⟩, prog_14_method_79_code, 8, (some .int), 2)
def pn_i80 : pn_I := (0, ⟨"NoThreeModel", "three", "(I)I"⟩, prog_14_method_80_code, 6, (some .int), 1)
def pn_i81 : pn_I := (0, ⟨"NoThreeModel", "fours", "()I"⟩, prog_14_method_81_code, 3, (some .int), 0)
def pn_i82 : pn_I := (0, ⟨"NoThreeModel", "scandal", "()I"⟩, prog_14_method_82_code, 5, (some .int), 0)
def pn_i83 : pn_I := (0, ⟨"NoThreeModel", "halves", "()I"⟩, prog_14_method_83_code, 1, (some .int), 0)
def pn_i84 : pn_I := (0, ⟨"NoThreeModel", "likes", "(IZ)I"⟩, prog_14_method_84_code, 8, (some .int), 2)
def pn_i85 : pn_I := (0, ⟨"NoThreeModel", "strangers", "()I"⟩, prog_14_method_85_code, 1, (some .int), 0)
def pn_i86 : pn_I := (0, ⟨"NoThreeModel", "six", "(I)I"⟩, prog_14_method_86_code, 6, (some .int), 1)
def pn_i87 : pn_I := (0, ⟨"NoThreeModel", "feasts", "()I"⟩, prog_14_method_87_code, 3, (some .int), 0)
def pn_i88 : pn_I := (0, ⟨"NoThreeModel", "isFull", "(I)Z"⟩, prog_14_method_88_code, 3, (some .boolean), 1)
def pn_i89 : pn_I := (0, ⟨"NoThreeModel", "full", "()I"⟩, prog_14_method_89_code, 3, (some .int), 0)
def pn_i90 : pn_I := (0, ⟨"NoThreeModel", "feast", "(I)I"⟩, prog_14_method_90_code, 2, (some .int), 1)
def pn_i91 : pn_I := (0, ⟨"NoThreeModel", "colours", "()I"⟩, prog_14_method_91_code, 1, (some .int), 0)
def pn_i92 : pn_I := (0, ⟨"NoThreeModel", "colour", "(I)I"⟩, prog_14_method_92_code, 2, (some .int), 1)
def pn_i93 : pn_I := (0, ⟨"NoThreeModel", "ways", "(I)J"⟩, prog_14_method_93_code, 5, (some .long), 1)
def pn_i94 : pn_I := (0, ⟨"NoThreeModel", "dear", "()I"⟩, prog_14_method_94_code, 3, (some .int), 0)
def pn_i95 : pn_I := (0, ⟨"NoThreeModel", "tells", "(III)V"⟩, prog_14_method_95_code, 5, none, 3)
def pn_i96 : pn_I := (0, ⟨"NoThreeModel", "tellingOf", "(I)I"⟩, prog_14_method_96_code, 5, (some .int), 1)
def pn_i97 : pn_I := (0, ⟨"NoThreeModel", "isLess", "(I)Z"⟩, prog_14_method_97_code, 3, (some .boolean), 1)
def pn_i98 : pn_I := (0, ⟨"NoThreeModel", "telling", "(I)I"⟩, prog_14_method_98_code, 2, (some .int), 1)
def pn_i99 : pn_I := (0, ⟨"NoThreeModel", "teller", "()I"⟩, prog_14_method_99_code, 7, (some .int), 0)
def pn_i100 : pn_I := (0, ⟨"NoThreeModel", "safe", "(II)I"⟩, prog_14_method_100_code, 5, (some .int), 2)
def pn_i101 : pn_I := (0, ⟨"NoThreeModel", "wide", "(I)I"⟩, prog_14_method_101_code, 6, (some .int), 1)
def pn_i102 : pn_I := (0, ⟨"NoThreeModel", "bitAt", "(II)I"⟩, prog_14_method_102_code, 2, (some .int), 2)
def pn_i103 : pn_I := (0, ⟨"NoThreeModel", "marks", "(III)V"⟩, prog_14_method_103_code, 7, none, 3)
def pn_i104 : pn_I := (0, ⟨"NoThreeModel", "markOf", "()I"⟩, prog_14_method_104_code, 1, (some .int), 0)
def pn_i105 : pn_I := (0, ⟨"NoThreeModel", "mark", "()I"⟩, prog_14_method_105_code, 1, (some .int), 0)
def pn_i106 : pn_I := (0, ⟨"NoThreeModel", "matches", "(II)I"⟩, prog_14_method_106_code, 7, (some .int), 2)
def pn_i107 : pn_I := (0, ⟨"NoThreeModel", "laysOther", "(I)V"⟩, prog_14_method_107_code, 3, none, 1)
def pn_i108 : pn_I := (0, ⟨"NoThreeModel", "selves", "()I"⟩, prog_14_method_108_code, 1, (some .int), 0)
def pn_i109 : pn_I := (0, ⟨"NoThreeModel", "alike", "(I)I"⟩, prog_14_method_109_code, 2, (some .int), 1)
def pn_i110 : pn_I := (0, ⟨"NoThreeModel", "becomes", "(II)V"⟩, prog_14_method_110_code, 5, none, 2)
def pn_i111 : pn_I := (0, ⟨"NoThreeModel", "isPlain", "(Z)Z"⟩, prog_14_method_111_code, 3, (some .boolean), 1)
def pn_i112 : pn_I := (0, ⟨"NoThreeModel", "unlike", "(IZ)I"⟩, prog_14_method_112_code, 5, (some .int), 2)
def pn_i113 : pn_I := (0, ⟨"NoThreeModel", "mostDoors", "(IZ)I"⟩, prog_14_method_113_code, 5, (some .int), 2)
def pn_i114 : pn_I := (0, ⟨"NoThreeModel", "laysThree", "()Z"⟩, prog_14_method_114_code, 4, (some .boolean), 0)
def pn_i115 : pn_I := (0, ⟨"NoThreeModel", "curesBy", "(IIII)Z"⟩, prog_14_method_115_code, 6, (some .boolean), 4)
def pn_i116 : pn_I := (0, ⟨"NoThreeModel", "canCure", "(II)Z"⟩, prog_14_method_116_code, 6, (some .boolean), 2)
def pn_i117 : pn_I := (0, ⟨"NoThreeModel", "cure", "(I)I"⟩, prog_14_method_117_code, 6, (some .int), 1)
def pn_i118 : pn_I := (0, ⟨"NoThreeModel", "takesDoor", "(II)Z"⟩, prog_14_method_118_code, 5, (some .boolean), 2)
def pn_i119 : pn_I := (0, ⟨"NoThreeModel", "payOf", "(II)I"⟩, prog_14_method_119_code, 4, (some .int), 2)
def pn_i120 : pn_I := (0, ⟨"NoThreeModel", "pay", "(II)I"⟩, prog_14_method_120_code, 3, (some .int), 2)
def pn_i121 : pn_I := (0, ⟨"NoThreeModel", "wantsWall", "(III)Z"⟩, prog_14_method_121_code, 7, (some .boolean), 3)
def pn_i122 : pn_I := (0, ⟨"NoThreeModel", "wantJoin", "(III)Z"⟩, prog_14_method_122_code, 8, (some .boolean), 3)
def pn_i123 : pn_I := (0, ⟨"NoThreeModel", "changes", "(IZ)Z"⟩, prog_14_method_123_code, 5, (some .boolean), 2)
def pn_i124 : pn_I := (0, ⟨"NoThreeModel", "atRest", "(I)I"⟩, prog_14_method_124_code, 2, (some .int), 1)
def pn_i125 : pn_I := (0, ⟨"NoThreeModel", "changing", "(II)I"⟩, prog_14_method_125_code, 6, (some .int), 2)
def pn_i126 : pn_I := (0, ⟨"NoThreeModel", "dearness", "()I"⟩, prog_14_method_126_code, 2, (some .int), 0)
def pn_i127 : pn_I := (0, ⟨"NoThreeModel", "cut", "(JI)J"⟩, prog_14_method_127_code, 3, (some .long), 2)
def pn_i128 : pn_I := (0, ⟨"NoThreeModel", "numbers", "(III)I"⟩, prog_14_method_128_code, 5, (some .int), 3)
def pn_i129 : pn_I := (0, ⟨"NoThreeModel", "write", "(IIJ)J"⟩, prog_14_method_129_code, 5, (some .long), 3)
def pn_i130 : pn_I := (0, ⟨"NoThreeModel", "copy", "(I)I"⟩, prog_14_method_130_code, 5, (some .int), 1)
def pn_i131 : pn_I := (0, ⟨"NoThreeModel", "image", "(I)I"⟩, prog_14_method_131_code, 3, (some .int), 1)
def pn_i132 : pn_I := (0, ⟨"NoThreeModel", "restore", "(I)I"⟩, prog_14_method_132_code, 3, (some .int), 1)
def pn_i133 : pn_I := (0, ⟨"NoThreeModel", "parts", "()I"⟩, prog_14_method_133_code, 4, (some .int), 0)
def pn_i134 : pn_I := (0, ⟨"NoThreeModel", "count", "(I)I"⟩, prog_14_method_134_code, 2, (some .int), 1)
def pn_i1001 : pn_I := (1, ⟨"NoThree$Annals", "<init>", "()V"⟩, prog_2_method_1_code, 1, none, 0)
def pn_i1002 : pn_I := (1, ⟨"NoThree$Annals", "become", "(LNoThree$Annals;)V"⟩, prog_2_method_2_code, 3, none, 1)
def pn_i1003 : pn_I := (1, ⟨"NoThree$Annals", "clear", "()V"⟩, prog_2_method_3_code, 1, none, 0)
def pn_i1004 : pn_I := (1, ⟨"NoThree$Annals", "remember", "()V"⟩, prog_2_method_4_code, 3, none, 0)
def pn_i1005 : pn_I := (1, ⟨"NoThree$Annals", "takeBack", "(I)V"⟩, prog_2_method_5_code, 5, none, 1)
def pn_i2001 : pn_I := (2, ⟨"NoThree$Council", "<init>", "()V"⟩, prog_3_method_1_code, 1, none, 0)
def pn_i2002 : pn_I := (2, ⟨"NoThree$Council", "convene", "(LNoThree$Rules;LNoThree$Town;)V"⟩, prog_3_method_2_code, 3, none, 2)
def pn_i2003 : pn_I := (2, ⟨"NoThree$Council", "holdingNow", "(I)I"⟩, prog_3_method_3_code, 2, (some .int), 1)
def pn_i2004 : pn_I := (2, ⟨"NoThree$Council", "survey", "()V"⟩, prog_3_method_4_code, 3, none, 0)
def pn_i2005 : pn_I := (2, ⟨"NoThree$Council", "reasonAgainstJoin", "(II)I"⟩, prog_3_method_5_code, 3, (some .int), 2)
def pn_i2006 : pn_I := (2, ⟨"NoThree$Council", "reasonAgainstEntry", "(I)I"⟩, prog_3_method_6_code, 2, (some .int), 1)
def pn_i2007 : pn_I := (2, ⟨"NoThree$Council", "suits", "(I)Z"⟩, prog_3_method_7_code, 3, (some .boolean), 1)
def pn_i2008 : pn_I := (2, ⟨"NoThree$Council", "keepsWhatHolds", "()Z"⟩, prog_3_method_8_code, 3, (some .boolean), 0)
def pn_i2009 : pn_I := (2, ⟨"NoThree$Council", "turnTo", "(LNoThree$Town;)V"⟩, prog_3_method_9_code, 2, none, 1)
def pn_i2010 : pn_I := (2, ⟨"NoThree$Council", "findMeanings", "(I)V"⟩, prog_3_method_10_code, 6, none, 1)
def pn_i2011 : pn_I := (2, ⟨"NoThree$Council", "ofHouse", "(II)I"⟩, prog_3_method_11_code, 3, (some .int), 2)
def pn_i2012 : pn_I := (2, ⟨"NoThree$Council", "meaning", "(II)I"⟩, prog_3_method_12_code, 4, (some .int), 2)
def pn_i2013 : pn_I := (2, ⟨"NoThree$Council", "standsFor", "(II)Z"⟩, prog_3_method_13_code, 7, (some .boolean), 2)
def pn_i2014 : pn_I := (2, ⟨"NoThree$Council", "worked", "(III)I"⟩, prog_3_method_14_code, 3, (some .int), 3)
def pn_i2015 : pn_I := (2, ⟨"NoThree$Council", "kept", "(J)I"⟩, prog_3_method_15_code, 2, (some .int), 1)
def pn_i3001 : pn_I := (3, ⟨"NoThree$Feasts", "<init>", "()V"⟩, prog_4_method_1_code, 1, none, 0)
def pn_i3002 : pn_I := (3, ⟨"NoThree$Feasts", "lay", "(LNoThree$Town;)V"⟩, prog_4_method_2_code, 5, none, 1)
def pn_i3003 : pn_I := (3, ⟨"NoThree$Feasts", "aroundOf", "(I)I"⟩, prog_4_method_3_code, 2, (some .int), 1)
def pn_i3004 : pn_I := (3, ⟨"NoThree$Feasts", "isFeast", "(I)Z"⟩, prog_4_method_4_code, 2, (some .boolean), 1)
def pn_i3005 : pn_I := (3, ⟨"NoThree$Feasts", "howMany", "()I"⟩, prog_4_method_5_code, 3, (some .int), 0)
def pn_i3006 : pn_I := (3, ⟨"NoThree$Feasts", "howManyFull", "()I"⟩, prog_4_method_6_code, 3, (some .int), 0)
def pn_i3007 : pn_I := (3, ⟨"NoThree$Feasts", "largest", "(I)I"⟩, prog_4_method_7_code, 5, (some .int), 1)
def pn_i3008 : pn_I := (3, ⟨"NoThree$Feasts", "mostGuests", "(LNoThree$Town;)I"⟩, prog_4_method_8_code, 1, (some .int), 1)
def pn_i3009 : pn_I := (3, ⟨"NoThree$Feasts", "mostOf", "(LNoThree$Town;II)I"⟩, prog_4_method_9_code, 9, (some .int), 3)
def pn_i4001 : pn_I := (4, ⟨"NoThree$Gossip", "<init>", "()V"⟩, prog_5_method_1_code, 1, none, 0)
def pn_i4002 : pn_I := (4, ⟨"NoThree$Gossip", "listen", "(LNoThree$Town;)V"⟩, prog_5_method_2_code, 5, none, 1)
def pn_i4003 : pn_I := (4, ⟨"NoThree$Gossip", "bestTeller", "()I"⟩, prog_5_method_3_code, 6, (some .int), 0)
def pn_i4004 : pn_I := (4, ⟨"NoThree$Gossip", "roundsFrom", "(I)I"⟩, prog_5_method_4_code, 3, (some .int), 1)
def pn_i4005 : pn_I := (4, ⟨"NoThree$Gossip", "canAllKnow", "(II)Z"⟩, prog_5_method_5_code, 3, (some .boolean), 2)
def pn_i4006 : pn_I := (4, ⟨"NoThree$Gossip", "mightAllKnow", "(II)Z"⟩, prog_5_method_6_code, 5, (some .boolean), 2)
def pn_i4007 : pn_I := (4, ⟨"NoThree$Gossip", "canTell", "(IIII)Z"⟩, prog_5_method_7_code, 6, (some .boolean), 4)
def pn_i4008 : pn_I := (4, ⟨"NoThree$Gossip", "isNext", "(III)Z"⟩, prog_5_method_8_code, 5, (some .boolean), 3)
def pn_i4009 : pn_I := (4, ⟨"NoThree$Gossip", "mostToldAtOnce", "(I)I"⟩, prog_5_method_9_code, 4, (some .int), 1)
def pn_i4010 : pn_I := (4, ⟨"NoThree$Gossip", "canBeToldToo", "(III)Z"⟩, prog_5_method_10_code, 7, (some .boolean), 3)
def pn_i5001 : pn_I := (5, ⟨"NoThree$Healer", "<init>", "()V"⟩, prog_6_method_1_code, 1, none, 0)
def pn_i5002 : pn_I := (5, ⟨"NoThree$Healer", "fewestWalls", "(LNoThree$Town;)I"⟩, prog_6_method_2_code, 3, (some .int), 1)
def pn_i5003 : pn_I := (5, ⟨"NoThree$Healer", "heal", "(IJ)V"⟩, prog_6_method_3_code, 8, none, 2)
def pn_i5004 : pn_I := (5, ⟨"NoThree$Healer", "healBy", "(IIIJ)V"⟩, prog_6_method_4_code, 6, none, 4)
def pn_i5005 : pn_I := (5, ⟨"NoThree$Healer", "bitOf", "(II)J"⟩, prog_6_method_5_code, 3, (some .long), 2)
def pn_i5006 : pn_I := (5, ⟨"NoThree$Healer", "wallAt", "(I)I"⟩, prog_6_method_6_code, 5, (some .int), 1)
def pn_i6001 : pn_I := (6, ⟨"NoThree$Kin", "<init>", "()V"⟩, prog_7_method_1_code, 1, none, 0)
def pn_i6002 : pn_I := (6, ⟨"NoThree$Kin", "leastNumber", "(LNoThree$Town;)I"⟩, prog_7_method_2_code, 2, (some .int), 1)
def pn_i6003 : pn_I := (6, ⟨"NoThree$Kin", "numberFrom", "(III)V"⟩, prog_7_method_3_code, 6, none, 3)
def pn_i6004 : pn_I := (6, ⟨"NoThree$Kin", "rowOf", "(II)I"⟩, prog_7_method_4_code, 5, (some .int), 2)
def pn_i6005 : pn_I := (6, ⟨"NoThree$Kin", "canBeMatched", "(LNoThree$Town;LNoThree$Town;)Z"⟩, prog_7_method_5_code, 3, (some .boolean), 2)
def pn_i6006 : pn_I := (6, ⟨"NoThree$Kin", "matchesToItself", "(LNoThree$Town;)I"⟩, prog_7_method_6_code, 6, (some .int), 1)
def pn_i6007 : pn_I := (6, ⟨"NoThree$Kin", "matchFrom", "(II)Z"⟩, prog_7_method_7_code, 4, (some .boolean), 2)
def pn_i6008 : pn_I := (6, ⟨"NoThree$Kin", "fits", "(II)Z"⟩, prog_7_method_8_code, 4, (some .boolean), 2)
def pn_i7001 : pn_I := (7, ⟨"NoThree$Market", "<init>", "()V"⟩, prog_8_method_1_code, 1, none, 0)
def pn_i7002 : pn_I := (7, ⟨"NoThree$Market", "visit", "(LNoThree$Town;)V"⟩, prog_8_method_2_code, 2, none, 1)
def pn_i7003 : pn_I := (7, ⟨"NoThree$Market", "worth", "(LNoThree$Town;I)I"⟩, prog_8_method_3_code, 3, (some .int), 2)
def pn_i7004 : pn_I := (7, ⟨"NoThree$Market", "nextChange", "(LNoThree$Rules;LNoThree$Council;I)I"⟩, prog_8_method_4_code, 6, (some .int), 3)
def pn_i7005 : pn_I := (7, ⟨"NoThree$Market", "leastCostOfRest", "(LNoThree$Rules;LNoThree$Council;)I"⟩, prog_8_method_5_code, 7, (some .int), 2)
def pn_i7006 : pn_I := (7, ⟨"NoThree$Market", "lossByWall", "(II)I"⟩, prog_8_method_6_code, 3, (some .int), 2)
def pn_i7007 : pn_I := (7, ⟨"NoThree$Market", "lureToJoin", "(II)I"⟩, prog_8_method_7_code, 5, (some .int), 2)
def pn_i8001 : pn_I := (8, ⟨"NoThree$Painter", "<init>", "()V"⟩, prog_9_method_1_code, 1, none, 0)
def pn_i8002 : pn_I := (8, ⟨"NoThree$Painter", "fewest", "(LNoThree$Town;I)I"⟩, prog_9_method_2_code, 4, (some .int), 2)
def pn_i8003 : pn_I := (8, ⟨"NoThree$Painter", "hardToPaint", "(II)I"⟩, prog_9_method_3_code, 7, (some .int), 2)
def pn_i8004 : pn_I := (8, ⟨"NoThree$Painter", "paintAll", "(IIII)Z"⟩, prog_9_method_4_code, 9, (some .boolean), 4)
def pn_i8005 : pn_I := (8, ⟨"NoThree$Painter", "mostBound", "(II)I"⟩, prog_9_method_5_code, 8, (some .int), 2)
def pn_i8006 : pn_I := (8, ⟨"NoThree$Painter", "firstShade", "(LNoThree$Town;I)I"⟩, prog_9_method_6_code, 5, (some .int), 2)
def pn_i8007 : pn_I := (8, ⟨"NoThree$Painter", "paintFrom", "(II)Z"⟩, prog_9_method_7_code, 5, (some .boolean), 2)
def pn_i8008 : pn_I := (8, ⟨"NoThree$Painter", "waysWith", "(LNoThree$Town;I)J"⟩, prog_9_method_8_code, 4, (some .long), 2)
def pn_i8009 : pn_I := (8, ⟨"NoThree$Painter", "waysOf", "(III)J"⟩, prog_9_method_9_code, 15, (some .long), 3)
def pn_i8010 : pn_I := (8, ⟨"NoThree$Painter", "sketched", "(II)I"⟩, prog_9_method_10_code, 4, (some .int), 2)
def pn_i8011 : pn_I := (8, ⟨"NoThree$Painter", "setSketch", "(III)V"⟩, prog_9_method_11_code, 5, none, 3)
def pn_i8012 : pn_I := (8, ⟨"NoThree$Painter", "leastLoose", "(II)I"⟩, prog_9_method_12_code, 7, (some .int), 2)
def pn_i8013 : pn_I := (8, ⟨"NoThree$Painter", "looseOf", "(II)I"⟩, prog_9_method_13_code, 6, (some .int), 2)
def pn_i8014 : pn_I := (8, ⟨"NoThree$Painter", "mergeAbove", "(III)V"⟩, prog_9_method_14_code, 7, none, 3)
def pn_i9001 : pn_I := (9, ⟨"NoThree$Reader", "<init>", "()V"⟩, prog_10_method_1_code, 1, none, 0)
def pn_i9002 : pn_I := (9, ⟨"NoThree$Reader", "hasRoomFor", "(I)Z"⟩, prog_10_method_2_code, 2, (some .boolean), 1)
def pn_i9003 : pn_I := (9, ⟨"NoThree$Reader", "append", "(I)V"⟩, prog_10_method_3_code, 3, none, 1)
def pn_i9004 : pn_I := (9, ⟨"NoThree$Reader", "read", "(I)V"⟩, prog_10_method_4_code, 4, none, 1)
def pn_i9005 : pn_I := (9, ⟨"NoThree$Reader", "findTokens", "()V"⟩, prog_10_method_5_code, 5, none, 0)
def pn_i9006 : pn_I := (9, ⟨"NoThree$Reader", "byteAt", "(I)I"⟩, prog_10_method_6_code, 2, (some .int), 1)
def pn_i9007 : pn_I := (9, ⟨"NoThree$Reader", "isBlank", "(I)Z"⟩, prog_10_method_7_code, 2, (some .boolean), 1)
def pn_i9008 : pn_I := (9, ⟨"NoThree$Reader", "isLetter", "(I)Z"⟩, prog_10_method_8_code, 2, (some .boolean), 1)
def pn_i9009 : pn_I := (9, ⟨"NoThree$Reader", "isDigit", "(I)Z"⟩, prog_10_method_9_code, 2, (some .boolean), 1)
def pn_i9010 : pn_I := (9, ⟨"NoThree$Reader", "endOfToken", "(I)I"⟩, prog_10_method_10_code, 3, (some .int), 1)
def pn_i9011 : pn_I := (9, ⟨"NoThree$Reader", "tokenOf", "(II)I"⟩, prog_10_method_11_code, 5, (some .int), 2)
def pn_i9012 : pn_I := (9, ⟨"NoThree$Reader", "wordOf", "(II)I"⟩, prog_10_method_12_code, 3, (some .int), 2)
def pn_i9013 : pn_I := (9, ⟨"NoThree$Reader", "ruleWordOf", "(II)I"⟩, prog_10_method_13_code, 3, (some .int), 2)
def pn_i9014 : pn_I := (9, ⟨"NoThree$Reader", "spells", "(Ljava/lang/String;II)Z"⟩, prog_10_method_14_code, 5, (some .boolean), 3)
def pn_i9015 : pn_I := (9, ⟨"NoThree$Reader", "advance", "()V"⟩, prog_10_method_15_code, 1, none, 0)
def pn_i9016 : pn_I := (9, ⟨"NoThree$Reader", "isNumber", "()Z"⟩, prog_10_method_16_code, 1, (some .boolean), 0)
def pn_i9017 : pn_I := (9, ⟨"NoThree$Reader", "isRuleWord", "()Z"⟩, prog_10_method_17_code, 1, (some .boolean), 0)
def pn_i9018 : pn_I := (9, ⟨"NoThree$Reader", "blame", "(I)Z"⟩, prog_10_method_18_code, 2, (some .boolean), 1)
def pn_i9019 : pn_I := (9, ⟨"NoThree$Reader", "pass", "(I)Z"⟩, prog_10_method_19_code, 2, (some .boolean), 1)
def pn_i9020 : pn_I := (9, ⟨"NoThree$Reader", "isHouseHere", "()Z"⟩, prog_10_method_20_code, 1, (some .boolean), 0)
def pn_i9021 : pn_I := (9, ⟨"NoThree$Reader", "readHouses", "()Z"⟩, prog_10_method_21_code, 3, (some .boolean), 0)
def pn_i9022 : pn_I := (9, ⟨"NoThree$Reader", "readDoor", "()Z"⟩, prog_10_method_22_code, 2, (some .boolean), 0)
def pn_i9023 : pn_I := (9, ⟨"NoThree$Reader", "readRing", "()Z"⟩, prog_10_method_23_code, 5, (some .boolean), 0)
def pn_i9024 : pn_I := (9, ⟨"NoThree$Reader", "readRule", "()Z"⟩, prog_10_method_24_code, 1, (some .boolean), 0)
def pn_i9025 : pn_I := (9, ⟨"NoThree$Reader", "readTruth", "(I)Z"⟩, prog_10_method_25_code, 3, (some .boolean), 1)
def pn_i9026 : pn_I := (9, ⟨"NoThree$Reader", "readBoth", "(I)Z"⟩, prog_10_method_26_code, 3, (some .boolean), 1)
def pn_i9027 : pn_I := (9, ⟨"NoThree$Reader", "readUnit", "(I)Z"⟩, prog_10_method_27_code, 3, (some .boolean), 1)
def pn_i9028 : pn_I := (9, ⟨"NoThree$Reader", "readComparison", "(I)Z"⟩, prog_10_method_28_code, 3, (some .boolean), 1)
def pn_i9029 : pn_I := (9, ⟨"NoThree$Reader", "comparisonOf", "(I)I"⟩, prog_10_method_29_code, 1, (some .int), 1)
def pn_i9030 : pn_I := (9, ⟨"NoThree$Reader", "readSum", "(I)Z"⟩, prog_10_method_30_code, 4, (some .boolean), 1)
def pn_i9031 : pn_I := (9, ⟨"NoThree$Reader", "readTerm", "(I)Z"⟩, prog_10_method_31_code, 3, (some .boolean), 1)
def pn_i9032 : pn_I := (9, ⟨"NoThree$Reader", "readAtom", "(I)Z"⟩, prog_10_method_32_code, 2, (some .boolean), 1)
def pn_i10001 : pn_I := (10, ⟨"NoThree$Rules", "<init>", "()V"⟩, prog_11_method_1_code, 1, none, 0)
def pn_i10002 : pn_I := (10, ⟨"NoThree$Rules", "clear", "()V"⟩, prog_11_method_2_code, 1, none, 0)
def pn_i10003 : pn_I := (10, ⟨"NoThree$Rules", "become", "(LNoThree$Rules;)V"⟩, prog_11_method_3_code, 3, none, 1)
def pn_i10004 : pn_I := (10, ⟨"NoThree$Rules", "add", "(I)V"⟩, prog_11_method_4_code, 2, none, 1)
def pn_i10005 : pn_I := (10, ⟨"NoThree$Rules", "close", "()V"⟩, prog_11_method_5_code, 1, none, 0)
def pn_i11001 : pn_I := (11, ⟨"NoThree$Town", "<init>", "()V"⟩, prog_12_method_1_code, 1, none, 0)
def pn_i11002 : pn_I := (11, ⟨"NoThree$Town", "has", "(I)Z"⟩, prog_12_method_2_code, 2, (some .boolean), 1)
def pn_i11003 : pn_I := (11, ⟨"NoThree$Town", "isPair", "(II)Z"⟩, prog_12_method_3_code, 3, (some .boolean), 2)
def pn_i11004 : pn_I := (11, ⟨"NoThree$Town", "all", "()I"⟩, prog_12_method_4_code, 1, (some .int), 0)
def pn_i11005 : pn_I := (11, ⟨"NoThree$Town", "neighbours", "(I)I"⟩, prog_12_method_5_code, 2, (some .int), 1)
def pn_i11006 : pn_I := (11, ⟨"NoThree$Town", "linked", "(II)Z"⟩, prog_12_method_6_code, 3, (some .boolean), 2)
def pn_i11007 : pn_I := (11, ⟨"NoThree$Town", "become", "(LNoThree$Town;)V"⟩, prog_12_method_7_code, 3, none, 1)
def pn_i11008 : pn_I := (11, ⟨"NoThree$Town", "clear", "()V"⟩, prog_12_method_8_code, 1, none, 0)
def pn_i11009 : pn_I := (11, ⟨"NoThree$Town", "link", "(II)V"⟩, prog_12_method_9_code, 3, none, 2)
def pn_i11010 : pn_I := (11, ⟨"NoThree$Town", "part", "(II)V"⟩, prog_12_method_10_code, 3, none, 2)
def pn_i11011 : pn_I := (11, ⟨"NoThree$Town", "addHouse", "(I)V"⟩, prog_12_method_11_code, 4, none, 1)
def pn_i11012 : pn_I := (11, ⟨"NoThree$Town", "drop", "(I)V"⟩, prog_12_method_12_code, 4, none, 1)
def pn_i11013 : pn_I := (11, ⟨"NoThree$Town", "twinAll", "()V"⟩, prog_12_method_13_code, 4, none, 0)
def pn_i11014 : pn_I := (11, ⟨"NoThree$Town", "doorsOf", "(I)I"⟩, prog_12_method_14_code, 2, (some .int), 1)
def pn_i11015 : pn_I := (11, ⟨"NoThree$Town", "doors", "()I"⟩, prog_12_method_15_code, 3, (some .int), 0)
def pn_i11016 : pn_I := (11, ⟨"NoThree$Town", "around", "(I)I"⟩, prog_12_method_16_code, 4, (some .int), 1)
def pn_i11017 : pn_I := (11, ⟨"NoThree$Town", "within", "(II)I"⟩, prog_12_method_17_code, 5, (some .int), 2)
def pn_i11018 : pn_I := (11, ⟨"NoThree$Town", "twoStepsFrom", "(I)I"⟩, prog_12_method_18_code, 2, (some .int), 1)
def pn_i11019 : pn_I := (11, ⟨"NoThree$Town", "farthest", "(I)I"⟩, prog_12_method_19_code, 6, (some .int), 1)
def pn_i11020 : pn_I := (11, ⟨"NoThree$Town", "stepsBetween", "(II)I"⟩, prog_12_method_20_code, 7, (some .int), 2)
def pn_i11021 : pn_I := (11, ⟨"NoThree$Town", "parts", "()I"⟩, prog_12_method_21_code, 4, (some .int), 0)
def pn_i11022 : pn_I := (11, ⟨"NoThree$Town", "threesWith", "(I)I"⟩, prog_12_method_22_code, 4, (some .int), 1)
def pn_i11023 : pn_I := (11, ⟨"NoThree$Town", "threes", "()I"⟩, prog_12_method_23_code, 4, (some .int), 0)
def pn_i11024 : pn_I := (11, ⟨"NoThree$Town", "threeAt", "(I)I"⟩, prog_12_method_24_code, 7, (some .int), 1)
def pn_i11025 : pn_I := (11, ⟨"NoThree$Town", "commonAbove", "(II)I"⟩, prog_12_method_25_code, 3, (some .int), 2)
def pn_i11026 : pn_I := (11, ⟨"NoThree$Town", "roundsBy", "(I)I"⟩, prog_12_method_26_code, 1, (some .int), 1)
def pn_i11027 : pn_I := (11, ⟨"NoThree$Town", "foursWith", "(I)I"⟩, prog_12_method_27_code, 4, (some .int), 1)
def pn_i11028 : pn_I := (11, ⟨"NoThree$Town", "roundsOfFour", "()I"⟩, prog_12_method_28_code, 4, (some .int), 0)
def pn_i11029 : pn_I := (11, ⟨"NoThree$Town", "leastOddRing", "()I"⟩, prog_12_method_29_code, 4, (some .int), 0)
def pn_i11030 : pn_I := (11, ⟨"NoThree$Town", "leastOddWalk", "(I)I"⟩, prog_12_method_30_code, 7, (some .int), 1)
def pn_i11031 : pn_I := (11, ⟨"NoThree$Town", "firstHalf", "(I)I"⟩, prog_12_method_31_code, 9, (some .int), 1)
def pn_i11032 : pn_I := (11, ⟨"NoThree$Town", "strangeThrees", "()I"⟩, prog_12_method_32_code, 4, (some .int), 0)
def pn_i11033 : pn_I := (11, ⟨"NoThree$Town", "calmestSix", "()I"⟩, prog_12_method_33_code, 5, (some .int), 0)
def pn_i11034 : pn_I := (11, ⟨"NoThree$Town", "meetingsInSix", "(I)I"⟩, prog_12_method_34_code, 5, (some .int), 1)
def pn_i12001 : pn_I := (12, ⟨"NoThree", "<init>", "()V"⟩, prog_1_method_1_code, 2, none, 0)
def pn_i12002 : pn_I := (12, ⟨"NoThree", "feed", "(IIIII)I"⟩, prog_1_method_2_code, 6, (some .int), 5)
def pn_i12003 : pn_I := (12, ⟨"NoThree", "town", "(I)I"⟩, prog_1_method_3_code, 2, (some .int), 1)
def pn_i12004 : pn_I := (12, ⟨"NoThree", "fault", "(I)I"⟩, prog_1_method_4_code, 2, (some .int), 1)
def pn_i12005 : pn_I := (12, ⟨"NoThree", "house", "(II)I"⟩, prog_1_method_5_code, 3, (some .int), 2)
def pn_i12006 : pn_I := (12, ⟨"NoThree", "steps", "(II)I"⟩, prog_1_method_6_code, 3, (some .int), 2)
def pn_i12007 : pn_I := (12, ⟨"NoThree", "holds", "(II)I"⟩, prog_1_method_7_code, 3, (some .int), 2)
def pn_i12008 : pn_I := (12, ⟨"NoThree", "broken", "(I)I"⟩, prog_1_method_8_code, 4, (some .int), 1)
def pn_i12009 : pn_I := (12, ⟨"NoThree", "breaches", "()I"⟩, prog_1_method_9_code, 3, (some .int), 0)
def pn_i12010 : pn_I := (12, ⟨"NoThree", "why", "(II)I"⟩, prog_1_method_10_code, 3, (some .int), 2)
def pn_i12011 : pn_I := (12, ⟨"NoThree", "join", "(II)I"⟩, prog_1_method_11_code, 4, (some .int), 2)
def pn_i12012 : pn_I := (12, ⟨"NoThree", "wall", "(II)I"⟩, prog_1_method_12_code, 4, (some .int), 2)
def pn_i12013 : pn_I := (12, ⟨"NoThree", "may", "(I)I"⟩, prog_1_method_13_code, 4, (some .int), 1)
def pn_i12014 : pn_I := (12, ⟨"NoThree", "enter", "(I)I"⟩, prog_1_method_14_code, 3, (some .int), 1)
def pn_i12015 : pn_I := (12, ⟨"NoThree", "leave", "(I)I"⟩, prog_1_method_15_code, 2, (some .int), 1)
def pn_i12016 : pn_I := (12, ⟨"NoThree", "weave", "()I"⟩, prog_1_method_16_code, 1, (some .int), 0)
def pn_i12017 : pn_I := (12, ⟨"NoThree", "undo", "(I)I"⟩, prog_1_method_17_code, 2, (some .int), 1)
def pn_i12018 : pn_I := (12, ⟨"NoThree", "judge", "(II)I"⟩, prog_1_method_18_code, 8, (some .int), 2)
def pn_i12019 : pn_I := (12, ⟨"NoThree", "perform", "(I)I"⟩, prog_1_method_19_code, 6, (some .int), 1)
def pn_i12020 : pn_I := (12, ⟨"NoThree", "grow", "(I)I"⟩, prog_1_method_20_code, 5, (some .int), 1)
def pn_i12021 : pn_I := (12, ⟨"NoThree", "century", "(II)I"⟩, prog_1_method_21_code, 11, (some .int), 2)
def pn_i12022 : pn_I := (12, ⟨"NoThree", "three", "(I)I"⟩, prog_1_method_22_code, 2, (some .int), 1)
def pn_i12023 : pn_I := (12, ⟨"NoThree", "fours", "()I"⟩, prog_1_method_23_code, 1, (some .int), 0)
def pn_i12024 : pn_I := (12, ⟨"NoThree", "scandal", "()I"⟩, prog_1_method_24_code, 1, (some .int), 0)
def pn_i12025 : pn_I := (12, ⟨"NoThree", "halves", "()I"⟩, prog_1_method_25_code, 1, (some .int), 0)
def pn_i12026 : pn_I := (12, ⟨"NoThree", "strangers", "()I"⟩, prog_1_method_26_code, 1, (some .int), 0)
def pn_i12027 : pn_I := (12, ⟨"NoThree", "six", "(I)I"⟩, prog_1_method_27_code, 3, (some .int), 1)
def pn_i12028 : pn_I := (12, ⟨"NoThree", "feasts", "()I"⟩, prog_1_method_28_code, 1, (some .int), 0)
def pn_i12029 : pn_I := (12, ⟨"NoThree", "full", "()I"⟩, prog_1_method_29_code, 1, (some .int), 0)
def pn_i12030 : pn_I := (12, ⟨"NoThree", "feast", "(I)I"⟩, prog_1_method_30_code, 2, (some .int), 1)
def pn_i12031 : pn_I := (12, ⟨"NoThree", "colours", "()I"⟩, prog_1_method_31_code, 1, (some .int), 0)
def pn_i12032 : pn_I := (12, ⟨"NoThree", "colour", "(I)I"⟩, prog_1_method_32_code, 2, (some .int), 1)
def pn_i12033 : pn_I := (12, ⟨"NoThree", "ways", "(I)J"⟩, prog_1_method_33_code, 2, (some .long), 1)
def pn_i12034 : pn_I := (12, ⟨"NoThree", "dear", "()I"⟩, prog_1_method_34_code, 4, (some .int), 0)
def pn_i12035 : pn_I := (12, ⟨"NoThree", "telling", "(I)I"⟩, prog_1_method_35_code, 2, (some .int), 1)
def pn_i12036 : pn_I := (12, ⟨"NoThree", "teller", "()I"⟩, prog_1_method_36_code, 1, (some .int), 0)
def pn_i12037 : pn_I := (12, ⟨"NoThree", "safe", "(II)I"⟩, prog_1_method_37_code, 3, (some .int), 2)
def pn_i12038 : pn_I := (12, ⟨"NoThree", "wide", "(I)I"⟩, prog_1_method_38_code, 7, (some .int), 1)
def pn_i12039 : pn_I := (12, ⟨"NoThree", "mark", "()I"⟩, prog_1_method_39_code, 1, (some .int), 0)
def pn_i12040 : pn_I := (12, ⟨"NoThree", "selves", "()I"⟩, prog_1_method_40_code, 1, (some .int), 0)
def pn_i12041 : pn_I := (12, ⟨"NoThree", "alike", "(I)I"⟩, prog_1_method_41_code, 3, (some .int), 1)
def pn_i12042 : pn_I := (12, ⟨"NoThree", "unlike", "(IZ)I"⟩, prog_1_method_42_code, 3, (some .int), 2)
def pn_i12043 : pn_I := (12, ⟨"NoThree", "mostDoors", "(IZ)I"⟩, prog_1_method_43_code, 3, (some .int), 2)
def pn_i12044 : pn_I := (12, ⟨"NoThree", "cure", "(I)I"⟩, prog_1_method_44_code, 3, (some .int), 1)
def pn_i12045 : pn_I := (12, ⟨"NoThree", "pay", "(II)I"⟩, prog_1_method_45_code, 3, (some .int), 2)
def pn_i12046 : pn_I := (12, ⟨"NoThree", "atRest", "(I)I"⟩, prog_1_method_46_code, 2, (some .int), 1)
def pn_i12047 : pn_I := (12, ⟨"NoThree", "changing", "(II)I"⟩, prog_1_method_47_code, 6, (some .int), 2)
def pn_i12048 : pn_I := (12, ⟨"NoThree", "dearness", "()I"⟩, prog_1_method_48_code, 1, (some .int), 0)
def pn_i12049 : pn_I := (12, ⟨"NoThree", "numbers", "(III)I"⟩, prog_1_method_49_code, 5, (some .int), 3)
def pn_i12050 : pn_I := (12, ⟨"NoThree", "write", "(IIJ)J"⟩, prog_1_method_50_code, 5, (some .long), 3)
def pn_i12051 : pn_I := (12, ⟨"NoThree", "copy", "(I)I"⟩, prog_1_method_51_code, 5, (some .int), 1)
def pn_i12052 : pn_I := (12, ⟨"NoThree", "image", "(I)I"⟩, prog_1_method_52_code, 2, (some .int), 1)
def pn_i12053 : pn_I := (12, ⟨"NoThree", "restore", "(I)I"⟩, prog_1_method_53_code, 2, (some .int), 1)
def pn_i12054 : pn_I := (12, ⟨"NoThree", "count", "(I)I"⟩, prog_1_method_54_code, 2, (some .int), 1)
def pn_i12055 : pn_I := (12, ⟨"NoThree", "isRow", "(I)Z"⟩, prog_1_method_55_code, 1, (some .boolean), 1)
def pn_i12056 : pn_I := (12, ⟨"NoThree", "isImage", "(I)Z"⟩, prog_1_method_56_code, 1, (some .boolean), 1)
def pn_i12057 : pn_I := (12, ⟨"NoThree", "imageAt", "(I)LNoThree$Annals;"⟩, prog_1_method_57_code, 2, (some (.object "NoThree$Annals")), 1)
def pn_i12058 : pn_I := (12, ⟨"NoThree", "isCost", "(I)Z"⟩, prog_1_method_58_code, 1, (some .boolean), 1)
def pn_i12059 : pn_I := (12, ⟨"NoThree", "nextDraw", "(I)I"⟩, prog_1_method_59_code, 1, (some .int), 1)
def pn_i12060 : pn_I := (12, ⟨"NoThree", "convene", "(LNoThree$Town;)V"⟩, prog_1_method_60_code, 2, none, 1)
def pn_i12061 : pn_I := (12, ⟨"NoThree", "settle", "(I)V"⟩, prog_1_method_61_code, 2, none, 1)
def pn_i12062 : pn_I := (12, ⟨"NoThree", "reasonAgainstWall", "(II)I"⟩, prog_1_method_62_code, 3, (some .int), 2)
def pn_i12063 : pn_I := (12, ⟨"NoThree", "nextToGrowBy", "()I"⟩, prog_1_method_63_code, 4, (some .int), 0)
def pn_i12064 : pn_I := (12, ⟨"NoThree", "reasonAgainstAct", "(LNoThree$Town;J)I"⟩, prog_1_method_64_code, 6, (some .int), 2)
def pn_i12065 : pn_I := (12, ⟨"NoThree", "turnDoor", "(LNoThree$Town;J)V"⟩, prog_1_method_65_code, 5, none, 2)
def pn_i12066 : pn_I := (12, ⟨"NoThree", "numberAt", "(II)J"⟩, prog_1_method_66_code, 4, (some .long), 2)
def pn_i12067 : pn_I := (12, ⟨"NoThree", "putNumber", "(IIJ)V"⟩, prog_1_method_67_code, 6, none, 3)
def pn_i12068 : pn_I := (12, ⟨"NoThree", "cutTo", "(IJ)J"⟩, prog_1_method_68_code, 3, (some .long), 2)
def pn_i20000 : pn_I := (20, ⟨"java/lang/Math", "max", "(II)I"⟩, prog_17_method_65_code, 2, (some .int), 2)
def pn_i20001 : pn_I := (20, ⟨"java/lang/Math", "min", "(II)I"⟩, prog_17_method_69_code, 2, (some .int), 2)
def pn_i20002 : pn_I := (20, ⟨"java/lang/Math", "min", "(JJ)J"⟩, prog_17_method_70_code, 4, (some .long), 2)
def pn_i20003 : pn_I := (20, ⟨"java/lang/Math", "max", "(JJ)J"⟩, prog_17_method_66_code, 4, (some .long), 2)
def pn_i21000 : pn_I := (21, ⟨"java/lang/Integer", "bitCount", "(I)I"⟩, prog_16_method_49_code, 1, (some .int), 1)
def pn_i22000 : pn_I := (22, ⟨"java/util/Arrays", "fill", "([II)V"⟩, prog_21_method_103_code, 4, none, 2)
def pn_i23000 : pn_I := (23, ⟨"java/lang/String", "length", "()I"⟩, prog_18_method_54_code, 1, (some .int), 0)
def pn_i23001 : pn_I := (23, ⟨"java/lang/String", "coder", "()B"⟩, prog_18_method_152_code, 1, (some .byte), 0)
def pn_i23002 : pn_I := (23, ⟨"java/lang/String", "charAt", "(I)C"⟩, prog_18_method_56_code, 2, (some .char), 1)
def pn_i23003 : pn_I := (23, ⟨"java/lang/String", "isLatin1", "()Z"⟩, prog_18_method_154_code, 1, (some .boolean), 0)
def pn_i23004 : pn_I := (23, ⟨"java/lang/String", "checkIndex", "(II)V"⟩, prog_18_method_155_code, 2, none, 2)
def pn_i23005 : pn_I := (23, ⟨"java/lang/String", "indexOf", "(I)I"⟩, prog_18_method_79_code, 2, (some .int), 1)
def pn_i23006 : pn_I := (23, ⟨"java/lang/String", "indexOf", "(II)I"⟩, prog_18_method_80_code, 3, (some .int), 2)
def pn_i23007 : pn_I := (23, ⟨"java/lang/String", "checkBoundsBeginEnd", "(III)V"⟩, prog_18_method_158_code, 3, none, 3)
def pn_i24000 : pn_I := (24, ⟨"java/lang/StringLatin1", "charAt", "([BI)C"⟩, prog_19_method_2_code, 2, (some .char), 2)
def pn_i24001 : pn_I := (24, ⟨"java/lang/StringLatin1", "indexOf", "([BIII)I"⟩, prog_19_method_22_code, 4, (some .int), 4)
def pn_i24002 : pn_I := (24, ⟨"java/lang/StringLatin1", "canEncode", "(I)Z"⟩, prog_19_method_4_code, 1, (some .boolean), 1)
def pn_i24003 : pn_I := (24, ⟨"java/lang/StringLatin1", "indexOfChar", "([BIII)I"⟩, prog_19_method_23_code, 6, (some .int), 4)
def pn_i25000 : pn_I := (25, ⟨"jdk/internal/util/Preconditions", "checkIndex", "(IILjava/util/function/BiFunction;)I"⟩, prog_22_method_11_code, 3, (some .int), 3)
def pn_i25001 : pn_I := (25, ⟨"jdk/internal/util/Preconditions", "checkFromToIndex", "(IIILjava/util/function/BiFunction;)I"⟩, prog_22_method_12_code, 4, (some .int), 4)
def pn_is0 : List pn_I := [pn_i2, pn_i2, pn_i2, pn_i3, pn_i4, pn_i5, pn_i6, pn_i7, pn_i8, pn_i9, pn_i10, pn_i11, pn_i12, pn_i13, pn_i14, pn_i15, pn_i16, pn_i17, pn_i18, pn_i19, pn_i20, pn_i21, pn_i22, pn_i23, pn_i24, pn_i25, pn_i26, pn_i27, pn_i28, pn_i29, pn_i30, pn_i31, pn_i32, pn_i33, pn_i34, pn_i35, pn_i36, pn_i37, pn_i38, pn_i39, pn_i40, pn_i41, pn_i42, pn_i43, pn_i44, pn_i45, pn_i46, pn_i47, pn_i48, pn_i49, pn_i50, pn_i51, pn_i52, pn_i53, pn_i54, pn_i55, pn_i56, pn_i57, pn_i58, pn_i59, pn_i60, pn_i61, pn_i62, pn_i63, pn_i64, pn_i65, pn_i66, pn_i67, pn_i68, pn_i69, pn_i70, pn_i71, pn_i72, pn_i73, pn_i74, pn_i75, pn_i76, pn_i77, pn_i78, pn_i79, pn_i80, pn_i81, pn_i82, pn_i83, pn_i84, pn_i85, pn_i86, pn_i87, pn_i88, pn_i89, pn_i90, pn_i91, pn_i92, pn_i93, pn_i94, pn_i95, pn_i96, pn_i97, pn_i98, pn_i99, pn_i100, pn_i101, pn_i102, pn_i103, pn_i104, pn_i105, pn_i106, pn_i107, pn_i108, pn_i109, pn_i110, pn_i111, pn_i112, pn_i113, pn_i114, pn_i115, pn_i116, pn_i117, pn_i118, pn_i119, pn_i120, pn_i121, pn_i122, pn_i123, pn_i124, pn_i125, pn_i126, pn_i127, pn_i128, pn_i129, pn_i130, pn_i131, pn_i132, pn_i133, pn_i134]
def pn_is1 : List pn_I := [pn_i2, pn_i1001, pn_i1002, pn_i1003, pn_i1004, pn_i1005]
def pn_is2 : List pn_I := [pn_i2, pn_i2001, pn_i2002, pn_i2003, pn_i2004, pn_i2005, pn_i2006, pn_i2007, pn_i2008, pn_i2009, pn_i2010, pn_i2011, pn_i2012, pn_i2013, pn_i2014, pn_i2015]
def pn_is3 : List pn_I := [pn_i2, pn_i3001, pn_i3002, pn_i3003, pn_i3004, pn_i3005, pn_i3006, pn_i3007, pn_i3008, pn_i3009]
def pn_is4 : List pn_I := [pn_i2, pn_i4001, pn_i4002, pn_i4003, pn_i4004, pn_i4005, pn_i4006, pn_i4007, pn_i4008, pn_i4009, pn_i4010]
def pn_is5 : List pn_I := [pn_i2, pn_i5001, pn_i5002, pn_i5003, pn_i5004, pn_i5005, pn_i5006]
def pn_is6 : List pn_I := [pn_i2, pn_i6001, pn_i6002, pn_i6003, pn_i6004, pn_i6005, pn_i6006, pn_i6007, pn_i6008]
def pn_is7 : List pn_I := [pn_i2, pn_i7001, pn_i7002, pn_i7003, pn_i7004, pn_i7005, pn_i7006, pn_i7007]
def pn_is8 : List pn_I := [pn_i2, pn_i8001, pn_i8002, pn_i8003, pn_i8004, pn_i8005, pn_i8006, pn_i8007, pn_i8008, pn_i8009, pn_i8010, pn_i8011, pn_i8012, pn_i8013, pn_i8014]
def pn_is9 : List pn_I := [pn_i2, pn_i9001, pn_i9002, pn_i9003, pn_i9004, pn_i9005, pn_i9006, pn_i9007, pn_i9008, pn_i9009, pn_i9010, pn_i9011, pn_i9012, pn_i9013, pn_i9014, pn_i9015, pn_i9016, pn_i9017, pn_i9018, pn_i9019, pn_i9020, pn_i9021, pn_i9022, pn_i9023, pn_i9024, pn_i9025, pn_i9026, pn_i9027, pn_i9028, pn_i9029, pn_i9030, pn_i9031, pn_i9032]
def pn_is10 : List pn_I := [pn_i2, pn_i10001, pn_i10002, pn_i10003, pn_i10004, pn_i10005]
def pn_is11 : List pn_I := [pn_i2, pn_i11001, pn_i11002, pn_i11003, pn_i11004, pn_i11005, pn_i11006, pn_i11007, pn_i11008, pn_i11009, pn_i11010, pn_i11011, pn_i11012, pn_i11013, pn_i11014, pn_i11015, pn_i11016, pn_i11017, pn_i11018, pn_i11019, pn_i11020, pn_i11021, pn_i11022, pn_i11023, pn_i11024, pn_i11025, pn_i11026, pn_i11027, pn_i11028, pn_i11029, pn_i11030, pn_i11031, pn_i11032, pn_i11033, pn_i11034]
def pn_is12 : List pn_I := [pn_i2, pn_i12001, pn_i12002, pn_i12003, pn_i12004, pn_i12005, pn_i12006, pn_i12007, pn_i12008, pn_i12009, pn_i12010, pn_i12011, pn_i12012, pn_i12013, pn_i12014, pn_i12015, pn_i12016, pn_i12017, pn_i12018, pn_i12019, pn_i12020, pn_i12021, pn_i12022, pn_i12023, pn_i12024, pn_i12025, pn_i12026, pn_i12027, pn_i12028, pn_i12029, pn_i12030, pn_i12031, pn_i12032, pn_i12033, pn_i12034, pn_i12035, pn_i12036, pn_i12037, pn_i12038, pn_i12039, pn_i12040, pn_i12041, pn_i12042, pn_i12043, pn_i12044, pn_i12045, pn_i12046, pn_i12047, pn_i12048, pn_i12049, pn_i12050, pn_i12051, pn_i12052, pn_i12053, pn_i12054, pn_i12055, pn_i12056, pn_i12057, pn_i12058, pn_i12059, pn_i12060, pn_i12061, pn_i12062, pn_i12063, pn_i12064, pn_i12065, pn_i12066, pn_i12067, pn_i12068]
def pn_is20 : List pn_I := [pn_i20000, pn_i20001, pn_i20002, pn_i20003]
def pn_is21 : List pn_I := [pn_i21000]
def pn_is22 : List pn_I := [pn_i22000]
def pn_is23 : List pn_I := [pn_i23000, pn_i23001, pn_i23002, pn_i23003, pn_i23004, pn_i23005, pn_i23006, pn_i23007]
def pn_is24 : List pn_I := [pn_i24000, pn_i24001, pn_i24002, pn_i24003]
def pn_is25 : List pn_I := [pn_i25000, pn_i25001]
def pn_is : Nat → List pn_I := fun k => match k with
  | 0 => pn_is0
  | 1 => pn_is1
  | 2 => pn_is2
  | 3 => pn_is3
  | 4 => pn_is4
  | 5 => pn_is5
  | 6 => pn_is6
  | 7 => pn_is7
  | 8 => pn_is8
  | 9 => pn_is9
  | 10 => pn_is10
  | 11 => pn_is11
  | 12 => pn_is12
  | 20 => pn_is20
  | 21 => pn_is21
  | 22 => pn_is22
  | 23 => pn_is23
  | 24 => pn_is24
  | 25 => pn_is25
  | _ => []
/-- a method by its key -/
def pn_i (k : Nat) : pn_I := (pn_is (k / 1000)).getD (k % 1000) pn_i2
def pn_tt : Nat → List Cond := fun k => match k with
  | 0 => k2_sels lw_privs
  | 1 => tables_1_1
  | 2 => tables_1_2
  | 3 => tables_1_3
  | 4 => tables_1_4
  | 5 => tables_1_5
  | 6 => tables_1_6
  | 7 => tables_1_7
  | 8 => tables_1_8
  | 9 => tables_1_9
  | _ => []
theorem pn_tt_in : ∀ (j : Nat) (w : Cond), w ∈ pn_tt j → w ∈ lw_tbl := by
  intro j w h
  match j, h with
  | 0, h => exact List.mem_append_left _ h
  | 1, h => exact List.mem_append_right _ (by unfold tables_1; simp only [List.mem_append]; simp [show w ∈ tables_1_1 from h])
  | 2, h => exact List.mem_append_right _ (by unfold tables_1; simp only [List.mem_append]; simp [show w ∈ tables_1_2 from h])
  | 3, h => exact List.mem_append_right _ (by unfold tables_1; simp only [List.mem_append]; simp [show w ∈ tables_1_3 from h])
  | 4, h => exact List.mem_append_right _ (by unfold tables_1; simp only [List.mem_append]; simp [show w ∈ tables_1_4 from h])
  | 5, h => exact List.mem_append_right _ (by unfold tables_1; simp only [List.mem_append]; simp [show w ∈ tables_1_5 from h])
  | 6, h => exact List.mem_append_right _ (by unfold tables_1; simp only [List.mem_append]; simp [show w ∈ tables_1_6 from h])
  | 7, h => exact List.mem_append_right _ (by unfold tables_1; simp only [List.mem_append]; simp [show w ∈ tables_1_7 from h])
  | 8, h => exact List.mem_append_right _ (by unfold tables_1; simp only [List.mem_append]; simp [show w ∈ tables_1_8 from h])
  | 9, h => exact List.mem_append_right _ (by unfold tables_1; simp only [List.mem_append]; simp [show w ∈ tables_1_9 from h])
  | n + 10, h => simp [pn_tt] at h
/-- the word at a place -/
def pn_at (p : Nat) : Option Cond := (pn_tt (p / 1000))[p % 1000]?
theorem pn_at_in {p : Nat} {w : Cond} (h : pn_at p = some w) : w ∈ lw_tbl := pn_tt_in _ w (List.mem_of_getElem? h)
/-- links: place in lw_tbl, class, entry, the field's class, its slot -/
def pn_FL : List (Nat × Nat × Nat × Nat × Nat) := [(1042, 11, 9, 11, 0), (1043, 3, 24, 11, 0), (1044, 4, 46, 11, 0), (1045, 6, 33, 11, 0), (1046, 8, 46, 11, 0), (1047, 7, 37, 11, 0), (1048, 2, 73, 11, 0), (1049, 1, 53, 11, 0), (1050, 5, 57, 11, 0), (1051, 12, 179, 11, 0), (1052, 9, 177, 11, 0), (1053, 11, 15, 11, 1), (1054, 3, 27, 11, 1), (1055, 4, 49, 11, 1), (1056, 8, 50, 11, 1), (1057, 1, 50, 11, 1), (1070, 10, 9, 10, 0), (1071, 2, 63, 10, 0), (1072, 12, 167, 10, 0), (1073, 9, 198, 10, 0), (1074, 10, 15, 10, 1), (1075, 2, 147, 10, 1), (1076, 10, 19, 10, 2), (1077, 2, 66, 10, 2), (1078, 10, 22, 10, 3), (1079, 2, 158, 10, 3), (1080, 10, 25, 10, 4), (1092, 1, 12, 1, 0), (1093, 12, 131, 1, 0), (1094, 9, 168, 1, 0), (1095, 1, 21, 1, 1), (1096, 12, 163, 1, 1), (1097, 9, 194, 1, 1), (1098, 1, 25, 1, 2), (1099, 12, 125, 1, 2), (1100, 9, 83, 1, 2), (1101, 1, 29, 1, 3), (1102, 12, 219, 1, 3), (1103, 1, 32, 1, 4), (1104, 1, 35, 1, 5), (1126, 9, 9, 9, 0), (1127, 12, 108, 9, 0), (1128, 9, 15, 9, 1), (1129, 12, 115, 9, 1), (1130, 9, 18, 9, 2), (1131, 12, 128, 9, 2), (1132, 9, 24, 9, 3), (1133, 12, 118, 9, 3), (1134, 9, 28, 9, 4), (1135, 9, 32, 9, 5), (1136, 9, 36, 9, 6), (1137, 9, 39, 9, 7), (1138, 9, 42, 9, 8), (1139, 9, 45, 9, 9), (1169, 3, 9, 3, 0), (1170, 3, 15, 3, 1), (1184, 8, 9, 8, 0), (1185, 8, 15, 8, 1), (1186, 8, 21, 8, 2), (1204, 4, 12, 4, 0), (1205, 4, 18, 4, 1), (1206, 4, 22, 4, 2), (1207, 4, 28, 4, 3), (1208, 4, 32, 4, 4), (1228, 6, 9, 6, 0), (1229, 6, 18, 6, 1), (1230, 6, 22, 6, 2), (1231, 6, 25, 6, 3), (2010, 5, 12, 5, 0), (2011, 5, 20, 5, 1), (2029, 2, 12, 2, 0), (2030, 2, 21, 2, 1), (2031, 2, 25, 2, 2), (2032, 2, 29, 2, 3), (2033, 2, 32, 2, 4), (2034, 2, 38, 2, 5), (2035, 2, 42, 2, 6), (2036, 2, 45, 2, 7), (2037, 2, 48, 2, 8), (2038, 2, 52, 2, 9), (2068, 7, 12, 7, 0), (2069, 12, 364, 7, 0), (2070, 7, 18, 7, 1), (2078, 12, 12, 12, 0), (2079, 12, 16, 12, 1), (2080, 12, 19, 12, 2), (2081, 12, 22, 12, 3), (2082, 12, 29, 12, 4), (2083, 12, 36, 12, 5), (2084, 12, 43, 12, 6), (2085, 12, 50, 12, 7), (2086, 12, 57, 12, 8), (2087, 12, 64, 12, 9), (2088, 12, 71, 12, 10), (2089, 12, 78, 12, 11), (2090, 12, 85, 12, 12), (2091, 12, 89, 12, 13), (2092, 12, 93, 12, 14), (2093, 12, 97, 12, 15), (6196, 0, 1, 0, 0), (6197, 0, 13, 0, 1), (6198, 0, 17, 0, 2), (6199, 0, 21, 0, 3), (6200, 0, 24, 0, 4), (6201, 0, 79, 0, 5), (6202, 0, 97, 0, 6), (6203, 0, 100, 0, 7), (6204, 0, 82, 0, 8), (6205, 0, 107, 0, 9), (6206, 0, 120, 0, 10), (6207, 0, 125, 0, 11), (6208, 0, 128, 0, 12), (6209, 0, 202, 0, 13), (6210, 0, 27, 0, 14), (6211, 0, 30, 0, 15), (6212, 0, 33, 0, 16), (6213, 0, 36, 0, 17), (6214, 0, 39, 0, 18), (6215, 0, 42, 0, 19), (6216, 0, 45, 0, 20), (6217, 0, 306, 0, 21), (6218, 0, 324, 0, 22), (6219, 0, 48, 0, 23), (6220, 0, 52, 0, 24), (6221, 0, 55, 0, 25), (6222, 0, 58, 0, 26), (6223, 0, 61, 0, 27), (6224, 0, 64, 0, 28), (6225, 0, 354, 0, 29), (6226, 0, 369, 0, 30), (6227, 0, 67, 0, 31), (6228, 0, 384, 0, 32), (6229, 0, 387, 0, 33), (6230, 0, 390, 0, 34), (6231, 0, 70, 0, 35), (6232, 0, 73, 0, 36), (6233, 0, 76, 0, 37)]
def pn_ML : List (Nat × Nat × Nat × Nat) := [(1024, 30, 9, 12001), (1032, 12, 11, 1001), (1038, 1, 11, 11001), (1066, 1, 20, 10001), (1120, 12, 28, 9001), (1125, 9, 23, 1001), (1165, 12, 35, 3001), (1178, 12, 42, 8001), (1183, 8, 20, 11001), (1196, 12, 49, 4001), (1201, 4, 11, 3001), (1203, 4, 27, 11001), (1222, 12, 56, 6001), (1227, 6, 17, 11001), (2003, 12, 63, 5001), (2008, 5, 11, 11001), (2019, 12, 70, 2001), (2024, 2, 11, 8001), (2026, 2, 20, 11001), (2028, 2, 37, 10001), (2062, 12, 77, 7001), (2067, 7, 11, 11001), (2077, 12, 84, 11001), (2128, 30, 13, 12002), (2132, 12, 100, 9002), (2136, 12, 104, 9003), (2140, 30, 18, 12003), (2144, 12, 112, 9004), (2148, 9, 48, 20000), (2151, 9, 54, 20001), (2154, 9, 57, 1003), (2158, 1, 46, 11008), (2162, 11, 23, 22000), (2165, 1, 49, 10002), (2169, 10, 28, 22000), (2170, 9, 60, 9005), (2174, 9, 86, 9007), (2178, 9, 96, 9006), (2182, 9, 89, 9010), (2186, 9, 99, 9008), (2190, 9, 102, 9009), (2194, 9, 93, 9011), (2198, 9, 105, 9012), (2203, 9, 117, 9014), (2207, 9, 154, 23000), (2211, 23, 335, 23001), (2217, 9, 158, 23002), (2221, 23, 492, 23003), (2225, 23, 495, 24000), (2228, 24, 9, 23004), (2233, 23, 1059, 25000), (3021, 9, 135, 9013), (3034, 9, 110, 23005), (3038, 23, 633, 23006), (3042, 23, 505, 23000), (3043, 23, 637, 24001), (3046, 24, 88, 24002), (3049, 24, 92, 20000), (3050, 24, 38, 20001), (3051, 24, 95, 24003), (3069, 23, 1062, 25001), (3089, 9, 63, 9021), (3093, 9, 162, 9015), (3097, 9, 165, 9016), (3101, 9, 76, 9018), (3105, 9, 179, 11011), (3109, 11, 33, 11009), (3113, 11, 29, 11003), (3117, 11, 19, 11002), (3121, 9, 67, 9022), (3125, 9, 183, 9020), (3129, 9, 172, 11002), (3130, 9, 186, 11006), (3134, 9, 190, 11009), (3135, 9, 70, 9023), (3139, 9, 73, 9024), (3143, 9, 80, 9019), (3147, 9, 201, 9025), (3151, 9, 207, 9026), (3155, 9, 213, 9027), (3159, 9, 216, 9028), (3163, 9, 219, 9030), (3167, 9, 225, 9031), (3171, 9, 228, 9032), (3175, 9, 231, 9017), (3179, 9, 210, 10004), (3183, 9, 222, 9029), (3186, 9, 204, 10005), (3190, 12, 121, 1002), (3194, 1, 39, 11007), (3198, 1, 43, 10003), (3202, 30, 23, 12004), (3206, 30, 27, 12005), (3210, 12, 134, 11002), (3211, 12, 137, 11014), (3215, 11, 45, 11005), (3219, 11, 49, 21000), (3225, 12, 141, 11005), (3226, 12, 144, 11022), (3230, 12, 147, 11027), (3234, 11, 67, 11026), (3237, 12, 150, 11019), (4001, 11, 54, 11016), (4005, 12, 153, 11017), (4009, 12, 157, 11018), (4013, 30, 32, 12006), (4017, 12, 160, 11020), (4021, 30, 36, 12007), (4025, 12, 172, 12060), (4029, 12, 391, 2002), (4033, 12, 176, 2003), (4037, 2, 56, 2004), (4041, 2, 59, 2009), (4045, 2, 69, 2010), (4049, 2, 115, 11015), (4053, 2, 118, 3008), (4056, 3, 19, 11004), (4060, 3, 43, 3009), (4063, 3, 38, 21000), (4064, 3, 47, 20000), (4065, 2, 101, 11004), (4066, 2, 124, 8002), (4070, 8, 25, 11016), (4071, 8, 29, 11031), (4075, 8, 32, 22000), (4076, 8, 38, 8003), (4080, 8, 53, 21000), (4081, 8, 42, 8004), (4085, 8, 58, 8005), (4089, 8, 61, 20000), (4090, 2, 128, 11031), (4091, 2, 131, 2011), (4095, 2, 135, 11014), (4096, 2, 138, 11022), (4097, 2, 141, 11027), (4098, 2, 144, 11019), (4099, 2, 76, 2013), (4103, 2, 150, 20001), (4104, 2, 155, 20000), (4105, 2, 161, 2012), (4109, 2, 164, 2014), (4112, 2, 168, 2015), (4117, 2, 176, 20002), (4120, 2, 179, 20003), (4123, 30, 40, 12008), (4127, 30, 44, 12009), (4131, 12, 182, 21000), (4132, 30, 49, 12010), (4136, 12, 187, 2005), (4140, 2, 80, 11003), (4141, 2, 83, 11006), (4142, 2, 86, 11005), (4143, 2, 90, 11007), (4144, 2, 93, 11009), (4145, 2, 97, 2008), (4149, 30, 53, 12011), (4153, 12, 190, 1004), (4157, 1, 56, 20001), (4158, 12, 193, 11009), (4159, 12, 197, 11015), (4160, 30, 57, 12012), (4164, 12, 201, 12062), (4168, 12, 397, 11003), (4169, 12, 381, 11006), (4170, 12, 204, 11010), (4174, 30, 61, 12013), (4178, 30, 65, 12014), (4182, 12, 207, 2006), (4186, 2, 105, 11016), (4187, 2, 108, 11011), (4188, 2, 111, 2007), (4192, 12, 210, 12061), (4196, 12, 394, 11011), (4197, 30, 69, 12015), (4201, 12, 213, 11012), (4205, 30, 73, 12016), (4209, 12, 216, 11013), (4213, 11, 37, 11004), (4214, 11, 41, 11011), (4215, 30, 77, 12017), (4219, 12, 222, 1005), (4223, 30, 81, 12018), (4227, 12, 225, 12055), (4230, 12, 228, 11007), (4231, 12, 230, 12066), (4235, 12, 234, 12064), (5000, 12, 238, 12065), (5003, 12, 242, 11023), (5007, 11, 61, 11006), (5008, 11, 64, 11025), (5012, 30, 85, 12019), (5016, 30, 89, 12020), (5020, 12, 245, 12063), (5024, 12, 281, 3002), (5028, 12, 290, 3007), (5032, 3, 34, 3004), (5036, 3, 30, 3003), (5040, 12, 266, 11004), (5041, 12, 400, 3004), (5042, 30, 93, 12021), (5046, 12, 248, 12059), (5050, 12, 251, 12012), (5051, 12, 254, 12011), (5052, 30, 97, 12022), (5056, 12, 257, 11024), (5060, 30, 101, 12023), (5064, 12, 260, 11028), (5068, 30, 105, 12024), (5072, 12, 263, 11029), (5076, 11, 70, 11030), (5080, 30, 109, 12025), (5084, 12, 269, 11031), (5085, 30, 113, 12026), (5089, 12, 272, 11032), (5093, 30, 117, 12027), (5097, 12, 275, 11033), (5101, 11, 73, 11034), (5105, 12, 278, 11034), (5106, 30, 121, 12028), (5110, 12, 284, 3005), (5114, 30, 125, 12029), (5118, 12, 287, 3006), (5122, 30, 129, 12030), (5126, 30, 133, 12031), (5130, 12, 293, 8002), (5131, 30, 137, 12032), (5135, 12, 297, 8006), (5139, 8, 66, 11004), (5140, 8, 70, 8002), (5141, 8, 74, 8007), (5145, 30, 141, 12033), (5150, 12, 302, 8008), (5154, 8, 78, 8009), (5158, 8, 82, 8012), (5162, 8, 85, 8010), (5166, 8, 88, 8013), (5170, 8, 91, 8014), (5174, 8, 95, 8011), (5178, 30, 146, 12034), (5182, 30, 150, 12035), (5186, 12, 306, 4002), (5190, 4, 36, 3002), (5191, 4, 40, 22000), (5192, 12, 309, 4004), (5196, 4, 52, 11017), (5197, 4, 70, 4005), (5201, 4, 74, 4006), (5205, 4, 84, 3003), (5206, 4, 56, 21000), (5207, 4, 77, 4009), (5211, 4, 91, 4010), (5215, 4, 80, 4007), (5219, 4, 87, 4008), (5223, 30, 154, 12036), (5227, 12, 312, 4003), (5231, 4, 62, 20000), (5232, 4, 67, 4004), (5233, 30, 158, 12037), (5237, 30, 162, 12038), (6001, 30, 166, 12039), (6005, 12, 315, 6002), (6009, 6, 29, 6003), (6013, 6, 36, 20001), (6014, 6, 42, 6004), (6018, 6, 45, 11006), (6019, 30, 170, 12040), (6023, 12, 319, 6006), (6027, 6, 56, 6008), (6031, 6, 59, 11014), (6032, 6, 53, 6007), (6036, 30, 174, 12041), (6040, 12, 322, 12056), (6043, 12, 325, 12057), (6047, 12, 329, 6005), (6051, 6, 49, 11015), (6052, 30, 178, 12042), (6060, 30, 183, 12043), (6068, 30, 187, 12044), (6072, 12, 345, 5002), (6076, 5, 24, 11007), (6077, 5, 28, 5003), (6081, 5, 32, 11024), (6082, 5, 36, 20003), (6083, 5, 42, 5004), (6087, 5, 46, 11010), (6088, 5, 50, 5005), (6091, 5, 54, 11009), (6092, 12, 348, 5006), (6096, 30, 191, 12045), (6100, 12, 351, 12058), (6103, 12, 354, 7003), (6107, 7, 25, 11014), (6108, 7, 29, 11018), (6109, 7, 32, 21000), (6110, 30, 195, 12046), (6114, 12, 357, 7002), (6118, 7, 21, 11007), (6119, 12, 360, 7004), (6123, 7, 41, 11006), (6124, 7, 45, 7006), (6128, 7, 66, 11010), (6129, 7, 70, 7003), (6130, 7, 61, 20001), (6131, 7, 49, 2002), (6132, 7, 55, 7007), (6136, 7, 74, 11009), (6137, 7, 58, 2005), (6138, 30, 199, 12047), (6142, 30, 203, 12048), (6146, 12, 367, 7005), (6150, 30, 207, 12049), (6154, 30, 214, 12050), (6161, 12, 377, 12067), (6165, 12, 405, 12068), (6168, 30, 219, 12051), (6173, 30, 223, 12052), (6177, 30, 227, 12053), (6181, 30, 231, 12054), (6185, 12, 387, 11021), (6189, 11, 57, 11017), (6192, 30, 12, 3), (7071, 30, 17, 4), (7075, 30, 22, 28), (7079, 0, 141, 2), (7082, 0, 134, 9), (7086, 0, 103, 5), (7090, 0, 110, 6), (7093, 0, 114, 8), (7098, 0, 87, 23000), (7099, 0, 93, 23002), (7100, 0, 117, 7), (7104, 0, 162, 12), (7108, 0, 131, 11), (7112, 0, 190, 16), (7117, 0, 137, 10), (7121, 0, 147, 13), (7125, 0, 193, 17), (7129, 0, 151, 14), (7132, 0, 155, 15), (7135, 0, 196, 18), (7139, 0, 199, 27), (7143, 0, 184, 26), (7147, 0, 187, 25), (7151, 0, 181, 24), (7155, 0, 169, 20), (7159, 0, 159, 19), (7163, 0, 172, 23), (7167, 0, 178, 22), (7171, 0, 175, 21), (7177, 30, 26, 29), (7181, 30, 31, 38), (7185, 0, 214, 30), (7189, 0, 205, 31), (7193, 0, 208, 32), (7196, 0, 218, 33), (7200, 0, 221, 34), (7204, 0, 211, 35), (7208, 0, 224, 36), (7212, 0, 227, 37), (7216, 30, 35, 39), (7220, 30, 39, 49), (7224, 0, 260, 48), (7228, 0, 253, 46), (7232, 0, 237, 45), (7236, 0, 240, 41), (8000, 0, 230, 40), (8004, 0, 243, 43), (8008, 0, 233, 42), (8012, 0, 246, 44), (8016, 0, 256, 47), (8021, 30, 43, 50), (8025, 30, 48, 51), (8029, 30, 52, 60), (8033, 0, 280, 57), (8037, 0, 267, 55), (8041, 0, 264, 54), (8045, 0, 270, 52), (8049, 0, 274, 56), (8053, 0, 277, 53), (8057, 30, 56, 61), (8061, 0, 284, 58), (8065, 30, 60, 62), (8069, 0, 287, 59), (8073, 30, 64, 63), (8077, 30, 68, 66), (8081, 0, 294, 65), (8085, 0, 291, 64), (8089, 30, 72, 69), (8093, 0, 301, 68), (8097, 0, 298, 67), (8100, 30, 76, 70), (8104, 30, 80, 71), (8109, 30, 84, 74), (8114, 0, 313, 72), (8119, 0, 317, 73), (8123, 30, 88, 75), (8127, 30, 92, 77), (8131, 0, 320, 76), (8135, 30, 96, 79), (8140, 0, 329, 78), (8145, 30, 100, 80), (8149, 30, 104, 81), (8153, 30, 108, 82), (8157, 30, 112, 83), (8161, 30, 116, 85), (8165, 0, 332, 84), (8169, 30, 120, 86), (8173, 30, 124, 87), (8177, 30, 128, 89), (8181, 0, 335, 88), (8185, 30, 132, 90), (8189, 30, 136, 91), (8193, 30, 140, 92), (8197, 30, 145, 93), (8203, 30, 149, 94), (8207, 30, 153, 98), (8211, 0, 349, 96), (8215, 0, 346, 97), (8219, 0, 342, 95), (8223, 30, 157, 99), (8227, 30, 161, 100), (8232, 30, 165, 101), (8236, 30, 169, 105), (9000, 0, 363, 104), (9004, 0, 360, 103), (9008, 0, 357, 102), (9011, 30, 173, 108), (9015, 0, 372, 107), (9019, 0, 366, 106), (9023, 30, 177, 109), (9027, 30, 182, 112), (9032, 0, 377, 110), (9036, 0, 380, 111), (9040, 30, 186, 113), (9044, 30, 190, 117), (9049, 0, 393, 116), (9053, 0, 396, 114), (9057, 0, 400, 115), (9061, 0, 406, 118), (9065, 30, 194, 120), (9070, 0, 411, 119), (9074, 30, 198, 124), (9078, 0, 420, 123), (9082, 0, 414, 121), (9086, 0, 417, 122), (9090, 30, 202, 125), (9095, 30, 206, 126), (9099, 30, 211, 128), (9104, 30, 218, 129), (9111, 0, 434, 127), (9114, 30, 222, 130), (9118, 30, 226, 131), (9122, 30, 230, 132), (9126, 30, 234, 134), (9130, 0, 438, 133)]
def pn_KI : List (Nat × Nat × Nat × Int32) := [(3222, 21, 265, 1431655765), (3223, 21, 266, 858993459), (3224, 21, 267, 252645135), (5049, 12, 390, 1103515245), (8144, 0, 323, 1103515245)]
def pn_KL : List (Nat × Nat × Nat × Int64) := [(2009, 5, 18, -1), (4115, 2, 172, -1000000), (4116, 2, 174, 1000000), (4239, 12, 403, 1100), (5149, 12, 300, -3), (6158, 12, 371, -2), (6159, 12, 373, -6), (6160, 12, 375, -7), (6172, 12, 385, 100), (7116, 0, 145, 11), (7175, 0, 165, 7), (7176, 0, 167, 14), (8019, 0, 249, 1000000), (8020, 0, 251, -1000000), (8108, 0, 304, 12), (8113, 0, 311, 3), (8118, 0, 309, 100), (8139, 0, 327, 60), (8201, 0, 338, 6), (8202, 0, 340, -3), (8231, 0, 352, 10), (9031, 0, 375, 5), (9048, 0, 404, 15), (9069, 0, 409, 99), (9094, 0, 424, 2), (9103, 0, 426, 40), (9108, 0, 428, -2), (9109, 0, 430, -6), (9110, 0, 432, -7), (9134, 30, 212, 4294967295)]
def pn_Tf : Nat → u_T := fun k => match k with
  | 0 => pn_T0
  | 1 => pn_T1
  | 2 => pn_T2
  | 3 => pn_T3
  | 4 => pn_T4
  | 5 => pn_T5
  | 6 => pn_T6
  | 7 => pn_T7
  | 8 => pn_T8
  | 9 => pn_T9
  | 10 => pn_T10
  | 11 => pn_T11
  | _ => pn_T12
def pn_tf : Nat → Nat → FieldType := fun k => match k with
  | 0 => pn_ty0
  | 1 => pn_ty1
  | 2 => pn_ty2
  | 3 => pn_ty3
  | 4 => pn_ty4
  | 5 => pn_ty5
  | 6 => pn_ty6
  | 7 => pn_ty7
  | 8 => pn_ty8
  | 9 => pn_ty9
  | 10 => pn_ty10
  | 11 => pn_ty11
  | _ => pn_ty12
def pn_kt (ty : FieldType) : Nat := match ty with
  | .int => 0
  | .long => 1
  | .boolean => 3
  | .byte => 4
  | .object _ => 2
  | .array _ => 2
  | _ => 9
/-- what is known of a class by its number -/
def pn_CF (a : Nat) : Prop := ∃ (C : String) (N : Nat), pn_cl[a]? = some (C, pn_Tf a, N) ∧ (∀ w ∈ u_ws C (pn_Tf a) N, w ∈ lw_tbl.filter goodWord) ∧ (∀ k, k < N → parseFieldDescriptor (pn_Tf a k).2.2.1 = some (pn_tf a k)) ∧ (∀ x, x < N → ∀ y, y < N → x ≠ y → (pn_Tf a x).2.1 ≠ (pn_Tf a y).2.1) ∧ pn_fk a = (List.range N).map (fun b => pn_kt (pn_tf a b)) ∧ C = pn_own a
theorem pn_cf : ∀ a, a < 13 → pn_CF a := by
  intro a h
  match a, h with
  | 0, _ => exact ⟨_, 38, rfl, pn_in0, pn_tok0, pn_nm0, by decide +kernel, rfl⟩
  | 1, _ => exact ⟨_, 6, rfl, pn_in1, pn_tok1, pn_nm1, by decide +kernel, rfl⟩
  | 2, _ => exact ⟨_, 10, rfl, pn_in2, pn_tok2, pn_nm2, by decide +kernel, rfl⟩
  | 3, _ => exact ⟨_, 2, rfl, pn_in3, pn_tok3, pn_nm3, by decide +kernel, rfl⟩
  | 4, _ => exact ⟨_, 5, rfl, pn_in4, pn_tok4, pn_nm4, by decide +kernel, rfl⟩
  | 5, _ => exact ⟨_, 2, rfl, pn_in5, pn_tok5, pn_nm5, by decide +kernel, rfl⟩
  | 6, _ => exact ⟨_, 4, rfl, pn_in6, pn_tok6, pn_nm6, by decide +kernel, rfl⟩
  | 7, _ => exact ⟨_, 2, rfl, pn_in7, pn_tok7, pn_nm7, by decide +kernel, rfl⟩
  | 8, _ => exact ⟨_, 3, rfl, pn_in8, pn_tok8, pn_nm8, by decide +kernel, rfl⟩
  | 9, _ => exact ⟨_, 10, rfl, pn_in9, pn_tok9, pn_nm9, by decide +kernel, rfl⟩
  | 10, _ => exact ⟨_, 5, rfl, pn_in10, pn_tok10, pn_nm10, by decide +kernel, rfl⟩
  | 11, _ => exact ⟨_, 2, rfl, pn_in11, pn_tok11, pn_nm11, by decide +kernel, rfl⟩
  | 12, _ => exact ⟨_, 16, rfl, pn_in12, pn_tok12, pn_nm12, by decide +kernel, rfl⟩
  | n + 13, h => exact absurd h (by omega)
theorem pn_FL_ok : ∀ q ∈ pn_FL, pn_at q.1 = some (Cond.fieldLink (pn_own q.2.1) q.2.2.1 (pn_Tf q.2.2.2.1 q.2.2.2.2).1 (pn_Tf q.2.2.2.1 q.2.2.2.2).2.1 (pn_Tf q.2.2.2.1 q.2.2.2.2).2.2.1) ∧ q.2.2.2.1 < 13 := by decide +kernel
theorem pn_ML_ok : ∀ q ∈ pn_ML, pn_at q.1 = some (Cond.methodLink (pn_own q.2.1) q.2.2.1 (pn_i q.2.2.2).2.1) := by decide +kernel
theorem pn_KI_ok : ∀ q ∈ pn_KI, pn_at q.1 = some (Cond.constant (pn_own q.2.1) q.2.2.1 q.2.2.2) := by decide +kernel
theorem pn_KL_ok : ∀ q ∈ pn_KL, pn_at q.1 = some (Cond.constantLong (pn_own q.2.1) q.2.2.1 q.2.2.2) := by decide +kernel
/-- a static method by its key: the places of code, initialized, static -/
def pn_MS : List (Nat × Nat × Nat × Nat) := [(2, 7081, 1013, 7080), (6, 7092, 1013, 7091), (7, 7102, 1013, 7101), (14, 7131, 1013, 7130), (15, 7134, 1013, 7133), (32, 7195, 1013, 7194), (47, 8018, 1013, 8017), (67, 8099, 1013, 8098), (102, 9010, 1013, 9009), (127, 9113, 1013, 9112), (2014, 4111, 1011, 4110), (2015, 4114, 1011, 4113), (3008, 4055, 1006, 4054), (3009, 4062, 1006, 4061), (5005, 6090, 1010, 6089), (9029, 3185, 1005, 3184), (11026, 3236, 1003, 3235), (12055, 4229, 1001, 4228), (12056, 6042, 1001, 6041), (12058, 6102, 1001, 6101), (12059, 5048, 1001, 5047), (12065, 5002, 1001, 5001), (12068, 6167, 1001, 6166), (20000, 2150, 1014, 2149), (20001, 2153, 1014, 2152), (20002, 4119, 1014, 4118), (20003, 4122, 1014, 4121), (21000, 3221, 1021, 3220), (22000, 2164, 1015, 2163), (23004, 2230, 1016, 2229), (23007, 3068, 1016, 3067), (24000, 2227, 1017, 2226), (24001, 3045, 1017, 3044), (24002, 3048, 1017, 3047), (24003, 3053, 1017, 3052), (25000, 2235, 1018, 2234), (25001, 3071, 1018, 3070)]
/-- an instance method by its key: the places of code, initialized, instanceMethod, selects -/
def pn_MV : List (Nat × Nat × Nat × Nat × Nat) := [(4, 7074, 1013, 7072, 7073), (5, 7089, 1013, 7088, 70), (8, 7096, 1013, 7095, 71), (9, 7085, 1013, 7084, 69), (10, 7120, 1013, 7119, 75), (11, 7111, 1013, 7110, 73), (12, 7107, 1013, 7106, 72), (13, 7124, 1013, 7123, 76), (16, 7115, 1013, 7114, 74), (17, 7128, 1013, 7127, 77), (18, 7138, 1013, 7137, 78), (19, 7162, 1013, 7161, 84), (20, 7158, 1013, 7157, 83), (21, 7174, 1013, 7173, 87), (22, 7170, 1013, 7169, 86), (23, 7166, 1013, 7165, 85), (24, 7154, 1013, 7153, 82), (25, 7150, 1013, 7149, 81), (26, 7146, 1013, 7145, 80), (27, 7142, 1013, 7141, 79), (28, 7078, 1013, 7076, 7077), (29, 7180, 1013, 7178, 7179), (30, 7188, 1013, 7187, 88), (31, 7192, 1013, 7191, 89), (33, 7199, 1013, 7198, 90), (34, 7203, 1013, 7202, 91), (35, 7207, 1013, 7206, 92), (36, 7211, 1013, 7210, 93), (37, 7215, 1013, 7214, 94), (38, 7184, 1013, 7182, 7183), (39, 7219, 1013, 7217, 7218), (40, 8003, 1013, 8002, 99), (41, 7239, 1013, 7238, 98), (42, 8011, 1013, 8010, 101), (43, 8007, 1013, 8006, 100), (44, 8015, 1013, 8014, 102), (45, 7235, 1013, 7234, 97), (46, 7231, 1013, 7230, 96), (48, 7227, 1013, 7226, 95), (49, 7223, 1013, 7221, 7222), (50, 8024, 1013, 8022, 8023), (51, 8028, 1013, 8026, 8027), (52, 8048, 1013, 8047, 106), (53, 8056, 1013, 8055, 108), (54, 8044, 1013, 8043, 105), (55, 8040, 1013, 8039, 104), (56, 8052, 1013, 8051, 107), (57, 8036, 1013, 8035, 103), (58, 8064, 1013, 8063, 109), (59, 8072, 1013, 8071, 110), (60, 8032, 1013, 8030, 8031), (61, 8060, 1013, 8058, 8059), (62, 8068, 1013, 8066, 8067), (63, 8076, 1013, 8074, 8075), (64, 8088, 1013, 8087, 112), (65, 8084, 1013, 8083, 111), (66, 8080, 1013, 8078, 8079), (68, 8096, 1013, 8095, 113), (69, 8092, 1013, 8090, 8091), (70, 8103, 1013, 8101, 8102), (71, 8107, 1013, 8105, 8106), (72, 8117, 1013, 8116, 114), (73, 8122, 1013, 8121, 115), (74, 8112, 1013, 8110, 8111), (75, 8126, 1013, 8124, 8125), (76, 8134, 1013, 8133, 116), (77, 8130, 1013, 8128, 8129), (78, 8143, 1013, 8142, 117), (79, 8138, 1013, 8136, 8137), (80, 8148, 1013, 8146, 8147), (81, 8152, 1013, 8150, 8151), (82, 8156, 1013, 8154, 8155), (83, 8160, 1013, 8158, 8159), (84, 8168, 1013, 8167, 118), (85, 8164, 1013, 8162, 8163), (86, 8172, 1013, 8170, 8171), (87, 8176, 1013, 8174, 8175), (88, 8184, 1013, 8183, 119), (89, 8180, 1013, 8178, 8179), (90, 8188, 1013, 8186, 8187), (91, 8192, 1013, 8190, 8191), (92, 8196, 1013, 8194, 8195), (93, 8200, 1013, 8198, 8199), (94, 8206, 1013, 8204, 8205), (95, 8222, 1013, 8221, 122), (96, 8214, 1013, 8213, 120), (97, 8218, 1013, 8217, 121), (98, 8210, 1013, 8208, 8209), (99, 8226, 1013, 8224, 8225), (100, 8230, 1013, 8228, 8229), (101, 8235, 1013, 8233, 8234), (103, 9007, 1013, 9006, 124), (104, 9003, 1013, 9002, 123), (105, 8239, 1013, 8237, 8238), (106, 9022, 1013, 9021, 126), (107, 9018, 1013, 9017, 125), (108, 9014, 1013, 9012, 9013), (109, 9026, 1013, 9024, 9025), (110, 9035, 1013, 9034, 127), (111, 9039, 1013, 9038, 128), (112, 9030, 1013, 9028, 9029), (113, 9043, 1013, 9041, 9042), (114, 9056, 1013, 9055, 130), (115, 9060, 1013, 9059, 131), (116, 9052, 1013, 9051, 129), (117, 9047, 1013, 9045, 9046), (118, 9064, 1013, 9063, 132), (119, 9073, 1013, 9072, 133), (120, 9068, 1013, 9066, 9067), (121, 9085, 1013, 9084, 135), (122, 9089, 1013, 9088, 136), (123, 9081, 1013, 9080, 134), (124, 9077, 1013, 9075, 9076), (125, 9093, 1013, 9091, 9092), (126, 9098, 1013, 9096, 9097), (128, 9102, 1013, 9100, 9101), (129, 9107, 1013, 9105, 9106), (130, 9117, 1013, 9115, 9116), (131, 9121, 1013, 9119, 9120), (132, 9125, 1013, 9123, 9124), (133, 9133, 1013, 9132, 137), (134, 9129, 1013, 9127, 9128), (1002, 3193, 1002, 3191, 3192), (1003, 2157, 1002, 2155, 2156), (1004, 4156, 1002, 4154, 4155), (1005, 4222, 1002, 4220, 4221), (2002, 4032, 1011, 4030, 4031), (2003, 4036, 1011, 4034, 4035), (2004, 4040, 1011, 4039, 28), (2005, 4139, 1011, 4137, 4138), (2006, 4185, 1011, 4183, 4184), (2007, 4191, 1011, 4190, 39), (2008, 4148, 1011, 4147, 37), (2009, 4044, 1011, 4043, 29), (2010, 4048, 1011, 4047, 30), (2011, 4094, 1011, 4093, 34), (2012, 4108, 1011, 4107, 36), (2013, 4102, 1011, 4101, 35), (3002, 5027, 1006, 5025, 5026), (3003, 5039, 1006, 5037, 5038), (3004, 5035, 1006, 5033, 5034), (3005, 5113, 1006, 5111, 5112), (3006, 5121, 1006, 5119, 5120), (3007, 5031, 1006, 5029, 5030), (4002, 5189, 1008, 5187, 5188), (4003, 5230, 1008, 5228, 5229), (4004, 5195, 1008, 5193, 5194), (4005, 5200, 1008, 5199, 53), (4006, 5204, 1008, 5203, 54), (4007, 5218, 1008, 5217, 57), (4008, 5222, 1008, 5221, 58), (4009, 5210, 1008, 5209, 55), (4010, 5214, 1008, 5213, 56), (5002, 6075, 1010, 6073, 6074), (5003, 6080, 1010, 6079, 64), (5004, 6086, 1010, 6085, 65), (5006, 6095, 1010, 6093, 6094), (6002, 6008, 1009, 6006, 6007), (6003, 6012, 1009, 6011, 59), (6004, 6017, 1009, 6016, 60), (6005, 6050, 1009, 6048, 6049), (6006, 6026, 1009, 6024, 6025), (6007, 6035, 1009, 6034, 62), (6008, 6030, 1009, 6029, 61), (7002, 6117, 1012, 6115, 6116), (7003, 6106, 1012, 6104, 6105), (7004, 6122, 1012, 6120, 6121), (7005, 6149, 1012, 6147, 6148), (7006, 6127, 1012, 6126, 66), (7007, 6135, 1012, 6134, 67), (8002, 4069, 1007, 4067, 4068), (8003, 4079, 1007, 4078, 31), (8004, 4084, 1007, 4083, 32), (8005, 4088, 1007, 4087, 33), (8006, 5138, 1007, 5136, 5137), (8007, 5144, 1007, 5143, 46), (8008, 5153, 1007, 5151, 5152), (8009, 5157, 1007, 5156, 47), (8010, 5165, 1007, 5164, 49), (8011, 5177, 1007, 5176, 52), (8012, 5161, 1007, 5160, 48), (8013, 5169, 1007, 5168, 50), (8014, 5173, 1007, 5172, 51), (9002, 2135, 1005, 2133, 2134), (9003, 2139, 1005, 2137, 2138), (9004, 2147, 1005, 2145, 2146), (9005, 2173, 1005, 2172, 0), (9006, 2181, 1005, 2180, 2), (9007, 2177, 1005, 2176, 1), (9008, 2189, 1005, 2188, 4), (9009, 2193, 1005, 2192, 5), (9010, 2185, 1005, 2184, 3), (9011, 2197, 1005, 2196, 6), (9012, 2201, 1005, 2200, 7), (9013, 3024, 1005, 3023, 9), (9014, 2206, 1005, 2205, 8), (9015, 3096, 1005, 3095, 11), (9016, 3100, 1005, 3099, 12), (9017, 3178, 1005, 3177, 26), (9018, 3104, 1005, 3103, 13), (9019, 3146, 1005, 3145, 18), (9020, 3128, 1005, 3127, 15), (9021, 3092, 1005, 3091, 10), (9022, 3124, 1005, 3123, 14), (9023, 3138, 1005, 3137, 16), (9024, 3142, 1005, 3141, 17), (9025, 3150, 1005, 3149, 19), (9026, 3154, 1005, 3153, 20), (9027, 3158, 1005, 3157, 21), (9028, 3162, 1005, 3161, 22), (9030, 3166, 1005, 3165, 23), (9031, 3170, 1005, 3169, 24), (9032, 3174, 1005, 3173, 25), (10002, 2168, 1004, 2166, 2167), (10003, 3201, 1004, 3199, 3200), (10004, 3182, 1004, 3180, 3181), (10005, 3189, 1004, 3187, 3188), (11002, 3120, 1003, 3118, 3119), (11003, 3116, 1003, 3114, 3115), (11004, 4059, 1003, 4057, 4058), (11005, 3218, 1003, 3216, 3217), (11006, 3133, 1003, 3131, 3132), (11007, 3197, 1003, 3195, 3196), (11008, 2161, 1003, 2159, 2160), (11009, 3112, 1003, 3110, 3111), (11010, 4173, 1003, 4171, 4172), (11011, 3108, 1003, 3106, 3107), (11012, 4204, 1003, 4202, 4203), (11013, 4212, 1003, 4210, 4211), (11014, 3214, 1003, 3212, 3213), (11015, 4052, 1003, 4050, 4051), (11016, 4004, 1003, 4002, 4003), (11017, 4008, 1003, 4006, 4007), (11018, 4012, 1003, 4010, 4011), (11019, 4000, 1003, 3238, 3239), (11020, 4020, 1003, 4018, 4019), (11021, 6188, 1003, 6186, 6187), (11022, 3229, 1003, 3227, 3228), (11023, 5006, 1003, 5004, 5005), (11024, 5059, 1003, 5057, 5058), (11025, 5011, 1003, 5010, 43), (11027, 3233, 1003, 3231, 3232), (11028, 5067, 1003, 5065, 5066), (11029, 5075, 1003, 5073, 5074), (11030, 5079, 1003, 5078, 45), (11031, 4074, 1003, 4072, 4073), (11032, 5092, 1003, 5090, 5091), (11033, 5100, 1003, 5098, 5099), (11034, 5104, 1003, 5102, 5103), (12002, 2131, 1001, 2129, 2130), (12003, 2143, 1001, 2141, 2142), (12004, 3205, 1001, 3203, 3204), (12005, 3209, 1001, 3207, 3208), (12006, 4016, 1001, 4014, 4015), (12007, 4024, 1001, 4022, 4023), (12008, 4126, 1001, 4124, 4125), (12009, 4130, 1001, 4128, 4129), (12010, 4135, 1001, 4133, 4134), (12011, 4152, 1001, 4150, 4151), (12012, 4163, 1001, 4161, 4162), (12013, 4177, 1001, 4175, 4176), (12014, 4181, 1001, 4179, 4180), (12015, 4200, 1001, 4198, 4199), (12016, 4208, 1001, 4206, 4207), (12017, 4218, 1001, 4216, 4217), (12018, 4226, 1001, 4224, 4225), (12019, 5015, 1001, 5013, 5014), (12020, 5019, 1001, 5017, 5018), (12021, 5045, 1001, 5043, 5044), (12022, 5055, 1001, 5053, 5054), (12023, 5063, 1001, 5061, 5062), (12024, 5071, 1001, 5069, 5070), (12025, 5083, 1001, 5081, 5082), (12026, 5088, 1001, 5086, 5087), (12027, 5096, 1001, 5094, 5095), (12028, 5109, 1001, 5107, 5108), (12029, 5117, 1001, 5115, 5116), (12030, 5125, 1001, 5123, 5124), (12031, 5129, 1001, 5127, 5128), (12032, 5134, 1001, 5132, 5133), (12033, 5148, 1001, 5146, 5147), (12034, 5181, 1001, 5179, 5180), (12035, 5185, 1001, 5183, 5184), (12036, 5226, 1001, 5224, 5225), (12037, 5236, 1001, 5234, 5235), (12038, 6000, 1001, 5238, 5239), (12039, 6004, 1001, 6002, 6003), (12040, 6022, 1001, 6020, 6021), (12041, 6039, 1001, 6037, 6038), (12042, 6055, 1001, 6053, 6054), (12043, 6063, 1001, 6061, 6062), (12044, 6071, 1001, 6069, 6070), (12045, 6099, 1001, 6097, 6098), (12046, 6113, 1001, 6111, 6112), (12047, 6141, 1001, 6139, 6140), (12048, 6145, 1001, 6143, 6144), (12049, 6153, 1001, 6151, 6152), (12050, 6157, 1001, 6155, 6156), (12051, 6171, 1001, 6169, 6170), (12052, 6176, 1001, 6174, 6175), (12053, 6180, 1001, 6178, 6179), (12054, 6184, 1001, 6182, 6183), (12057, 6046, 1001, 6045, 63), (12060, 4028, 1001, 4027, 27), (12061, 4195, 1001, 4194, 40), (12062, 4167, 1001, 4166, 38), (12063, 5023, 1001, 5022, 44), (12064, 4238, 1001, 4237, 42), (12066, 4234, 1001, 4233, 41), (12067, 6164, 1001, 6163, 68), (23000, 2210, 1016, 2208, 2209), (23001, 2214, 1016, 2212, 2213), (23002, 2220, 1016, 2218, 2219), (23003, 2224, 1016, 2222, 2223), (23005, 3037, 1016, 3035, 3036), (23006, 3041, 1016, 3039, 3040)]
def pn_mok (i : pn_I) : Bool := decide (pn_own i.1 = i.2.1.cls) && decide (i.2.1.cls ≠ "java/lang/invoke/MethodHandle") && decide (i.2.1.cls ≠ "java/lang/invoke/VarHandle") && decide ((parseMethodDescriptor i.2.1.desc).map (fun d => d.parameters.length) = some i.2.2.2.2.2) && decide (i.2.2.2.1 ≤ 40)
theorem pn_MS_ok : ∀ q ∈ pn_MS, (pn_at q.2.2.1 = some (Cond.initialized (pn_i q.1).2.1.cls) ∧ pn_at q.2.2.2 = some (Cond.static (pn_i q.1).2.1)) ∧ pn_mok (pn_i q.1) = true := by decide +kernel
theorem pn_MV_ok : ∀ q ∈ pn_MV, (pn_at q.2.2.1 = some (Cond.initialized (pn_i q.1).2.1.cls) ∧ pn_at q.2.2.2.1 = some (Cond.instanceMethod (pn_i q.1).2.1) ∧ pn_at q.2.2.2.2 = some (Cond.selects (pn_i q.1).2.1.cls (pn_i q.1).2.1 (pn_i q.1).2.1)) ∧ pn_mok (pn_i q.1) = true := by decide +kernel
theorem pn_MS_code : ∀ q ∈ pn_MS, pn_at q.2.1 = some (Cond.code (pn_i q.1).2.1 (pn_i q.1).2.2.1 (pn_i q.1).2.2.2.1 (pn_i q.1).2.2.2.2.1) := by decide +kernel
def pn_MV0 : List (Nat × Nat × Nat × Nat × Nat) := [(4, 7074, 1013, 7072, 7073), (5, 7089, 1013, 7088, 70), (8, 7096, 1013, 7095, 71), (9, 7085, 1013, 7084, 69), (10, 7120, 1013, 7119, 75), (11, 7111, 1013, 7110, 73), (12, 7107, 1013, 7106, 72), (13, 7124, 1013, 7123, 76), (16, 7115, 1013, 7114, 74), (17, 7128, 1013, 7127, 77), (18, 7138, 1013, 7137, 78), (19, 7162, 1013, 7161, 84), (20, 7158, 1013, 7157, 83), (21, 7174, 1013, 7173, 87), (22, 7170, 1013, 7169, 86), (23, 7166, 1013, 7165, 85), (24, 7154, 1013, 7153, 82), (25, 7150, 1013, 7149, 81), (26, 7146, 1013, 7145, 80), (27, 7142, 1013, 7141, 79), (28, 7078, 1013, 7076, 7077), (29, 7180, 1013, 7178, 7179), (30, 7188, 1013, 7187, 88), (31, 7192, 1013, 7191, 89), (33, 7199, 1013, 7198, 90)]
theorem pn_MV_code0 : ∀ q ∈ pn_MV0, pn_at q.2.1 = some (Cond.code (pn_i q.1).2.1 (pn_i q.1).2.2.1 (pn_i q.1).2.2.2.1 (pn_i q.1).2.2.2.2.1) := by decide +kernel
def pn_MV1 : List (Nat × Nat × Nat × Nat × Nat) := [(34, 7203, 1013, 7202, 91), (35, 7207, 1013, 7206, 92), (36, 7211, 1013, 7210, 93), (37, 7215, 1013, 7214, 94), (38, 7184, 1013, 7182, 7183), (39, 7219, 1013, 7217, 7218), (40, 8003, 1013, 8002, 99), (41, 7239, 1013, 7238, 98), (42, 8011, 1013, 8010, 101), (43, 8007, 1013, 8006, 100), (44, 8015, 1013, 8014, 102), (45, 7235, 1013, 7234, 97), (46, 7231, 1013, 7230, 96), (48, 7227, 1013, 7226, 95), (49, 7223, 1013, 7221, 7222), (50, 8024, 1013, 8022, 8023), (51, 8028, 1013, 8026, 8027), (52, 8048, 1013, 8047, 106), (53, 8056, 1013, 8055, 108), (54, 8044, 1013, 8043, 105), (55, 8040, 1013, 8039, 104), (56, 8052, 1013, 8051, 107), (57, 8036, 1013, 8035, 103), (58, 8064, 1013, 8063, 109), (59, 8072, 1013, 8071, 110)]
theorem pn_MV_code1 : ∀ q ∈ pn_MV1, pn_at q.2.1 = some (Cond.code (pn_i q.1).2.1 (pn_i q.1).2.2.1 (pn_i q.1).2.2.2.1 (pn_i q.1).2.2.2.2.1) := by decide +kernel
def pn_MV2 : List (Nat × Nat × Nat × Nat × Nat) := [(60, 8032, 1013, 8030, 8031), (61, 8060, 1013, 8058, 8059), (62, 8068, 1013, 8066, 8067), (63, 8076, 1013, 8074, 8075), (64, 8088, 1013, 8087, 112), (65, 8084, 1013, 8083, 111), (66, 8080, 1013, 8078, 8079), (68, 8096, 1013, 8095, 113), (69, 8092, 1013, 8090, 8091), (70, 8103, 1013, 8101, 8102), (71, 8107, 1013, 8105, 8106), (72, 8117, 1013, 8116, 114), (73, 8122, 1013, 8121, 115), (74, 8112, 1013, 8110, 8111), (75, 8126, 1013, 8124, 8125), (76, 8134, 1013, 8133, 116), (77, 8130, 1013, 8128, 8129), (78, 8143, 1013, 8142, 117), (79, 8138, 1013, 8136, 8137), (80, 8148, 1013, 8146, 8147), (81, 8152, 1013, 8150, 8151), (82, 8156, 1013, 8154, 8155), (83, 8160, 1013, 8158, 8159), (84, 8168, 1013, 8167, 118), (85, 8164, 1013, 8162, 8163)]
theorem pn_MV_code2 : ∀ q ∈ pn_MV2, pn_at q.2.1 = some (Cond.code (pn_i q.1).2.1 (pn_i q.1).2.2.1 (pn_i q.1).2.2.2.1 (pn_i q.1).2.2.2.2.1) := by decide +kernel
def pn_MV3 : List (Nat × Nat × Nat × Nat × Nat) := [(86, 8172, 1013, 8170, 8171), (87, 8176, 1013, 8174, 8175), (88, 8184, 1013, 8183, 119), (89, 8180, 1013, 8178, 8179), (90, 8188, 1013, 8186, 8187), (91, 8192, 1013, 8190, 8191), (92, 8196, 1013, 8194, 8195), (93, 8200, 1013, 8198, 8199), (94, 8206, 1013, 8204, 8205), (95, 8222, 1013, 8221, 122), (96, 8214, 1013, 8213, 120), (97, 8218, 1013, 8217, 121), (98, 8210, 1013, 8208, 8209), (99, 8226, 1013, 8224, 8225), (100, 8230, 1013, 8228, 8229), (101, 8235, 1013, 8233, 8234), (103, 9007, 1013, 9006, 124), (104, 9003, 1013, 9002, 123), (105, 8239, 1013, 8237, 8238), (106, 9022, 1013, 9021, 126), (107, 9018, 1013, 9017, 125), (108, 9014, 1013, 9012, 9013), (109, 9026, 1013, 9024, 9025), (110, 9035, 1013, 9034, 127), (111, 9039, 1013, 9038, 128)]
theorem pn_MV_code3 : ∀ q ∈ pn_MV3, pn_at q.2.1 = some (Cond.code (pn_i q.1).2.1 (pn_i q.1).2.2.1 (pn_i q.1).2.2.2.1 (pn_i q.1).2.2.2.2.1) := by decide +kernel
def pn_MV4 : List (Nat × Nat × Nat × Nat × Nat) := [(112, 9030, 1013, 9028, 9029), (113, 9043, 1013, 9041, 9042), (114, 9056, 1013, 9055, 130), (115, 9060, 1013, 9059, 131), (116, 9052, 1013, 9051, 129), (117, 9047, 1013, 9045, 9046), (118, 9064, 1013, 9063, 132), (119, 9073, 1013, 9072, 133), (120, 9068, 1013, 9066, 9067), (121, 9085, 1013, 9084, 135), (122, 9089, 1013, 9088, 136), (123, 9081, 1013, 9080, 134), (124, 9077, 1013, 9075, 9076), (125, 9093, 1013, 9091, 9092), (126, 9098, 1013, 9096, 9097), (128, 9102, 1013, 9100, 9101), (129, 9107, 1013, 9105, 9106), (130, 9117, 1013, 9115, 9116), (131, 9121, 1013, 9119, 9120), (132, 9125, 1013, 9123, 9124), (133, 9133, 1013, 9132, 137), (134, 9129, 1013, 9127, 9128), (1002, 3193, 1002, 3191, 3192), (1003, 2157, 1002, 2155, 2156), (1004, 4156, 1002, 4154, 4155)]
theorem pn_MV_code4 : ∀ q ∈ pn_MV4, pn_at q.2.1 = some (Cond.code (pn_i q.1).2.1 (pn_i q.1).2.2.1 (pn_i q.1).2.2.2.1 (pn_i q.1).2.2.2.2.1) := by decide +kernel
def pn_MV5 : List (Nat × Nat × Nat × Nat × Nat) := [(1005, 4222, 1002, 4220, 4221), (2002, 4032, 1011, 4030, 4031), (2003, 4036, 1011, 4034, 4035), (2004, 4040, 1011, 4039, 28), (2005, 4139, 1011, 4137, 4138), (2006, 4185, 1011, 4183, 4184), (2007, 4191, 1011, 4190, 39), (2008, 4148, 1011, 4147, 37), (2009, 4044, 1011, 4043, 29), (2010, 4048, 1011, 4047, 30), (2011, 4094, 1011, 4093, 34), (2012, 4108, 1011, 4107, 36), (2013, 4102, 1011, 4101, 35), (3002, 5027, 1006, 5025, 5026), (3003, 5039, 1006, 5037, 5038), (3004, 5035, 1006, 5033, 5034), (3005, 5113, 1006, 5111, 5112), (3006, 5121, 1006, 5119, 5120), (3007, 5031, 1006, 5029, 5030), (4002, 5189, 1008, 5187, 5188), (4003, 5230, 1008, 5228, 5229), (4004, 5195, 1008, 5193, 5194), (4005, 5200, 1008, 5199, 53), (4006, 5204, 1008, 5203, 54), (4007, 5218, 1008, 5217, 57)]
theorem pn_MV_code5 : ∀ q ∈ pn_MV5, pn_at q.2.1 = some (Cond.code (pn_i q.1).2.1 (pn_i q.1).2.2.1 (pn_i q.1).2.2.2.1 (pn_i q.1).2.2.2.2.1) := by decide +kernel
def pn_MV6 : List (Nat × Nat × Nat × Nat × Nat) := [(4008, 5222, 1008, 5221, 58), (4009, 5210, 1008, 5209, 55), (4010, 5214, 1008, 5213, 56), (5002, 6075, 1010, 6073, 6074), (5003, 6080, 1010, 6079, 64), (5004, 6086, 1010, 6085, 65), (5006, 6095, 1010, 6093, 6094), (6002, 6008, 1009, 6006, 6007), (6003, 6012, 1009, 6011, 59), (6004, 6017, 1009, 6016, 60), (6005, 6050, 1009, 6048, 6049), (6006, 6026, 1009, 6024, 6025), (6007, 6035, 1009, 6034, 62), (6008, 6030, 1009, 6029, 61), (7002, 6117, 1012, 6115, 6116), (7003, 6106, 1012, 6104, 6105), (7004, 6122, 1012, 6120, 6121), (7005, 6149, 1012, 6147, 6148), (7006, 6127, 1012, 6126, 66), (7007, 6135, 1012, 6134, 67), (8002, 4069, 1007, 4067, 4068), (8003, 4079, 1007, 4078, 31), (8004, 4084, 1007, 4083, 32), (8005, 4088, 1007, 4087, 33), (8006, 5138, 1007, 5136, 5137)]
theorem pn_MV_code6 : ∀ q ∈ pn_MV6, pn_at q.2.1 = some (Cond.code (pn_i q.1).2.1 (pn_i q.1).2.2.1 (pn_i q.1).2.2.2.1 (pn_i q.1).2.2.2.2.1) := by decide +kernel
def pn_MV7 : List (Nat × Nat × Nat × Nat × Nat) := [(8007, 5144, 1007, 5143, 46), (8008, 5153, 1007, 5151, 5152), (8009, 5157, 1007, 5156, 47), (8010, 5165, 1007, 5164, 49), (8011, 5177, 1007, 5176, 52), (8012, 5161, 1007, 5160, 48), (8013, 5169, 1007, 5168, 50), (8014, 5173, 1007, 5172, 51), (9002, 2135, 1005, 2133, 2134), (9003, 2139, 1005, 2137, 2138), (9004, 2147, 1005, 2145, 2146), (9005, 2173, 1005, 2172, 0), (9006, 2181, 1005, 2180, 2), (9007, 2177, 1005, 2176, 1), (9008, 2189, 1005, 2188, 4), (9009, 2193, 1005, 2192, 5), (9010, 2185, 1005, 2184, 3), (9011, 2197, 1005, 2196, 6), (9012, 2201, 1005, 2200, 7), (9013, 3024, 1005, 3023, 9), (9014, 2206, 1005, 2205, 8), (9015, 3096, 1005, 3095, 11), (9016, 3100, 1005, 3099, 12), (9017, 3178, 1005, 3177, 26), (9018, 3104, 1005, 3103, 13)]
theorem pn_MV_code7 : ∀ q ∈ pn_MV7, pn_at q.2.1 = some (Cond.code (pn_i q.1).2.1 (pn_i q.1).2.2.1 (pn_i q.1).2.2.2.1 (pn_i q.1).2.2.2.2.1) := by decide +kernel
def pn_MV8 : List (Nat × Nat × Nat × Nat × Nat) := [(9019, 3146, 1005, 3145, 18), (9020, 3128, 1005, 3127, 15), (9021, 3092, 1005, 3091, 10), (9022, 3124, 1005, 3123, 14), (9023, 3138, 1005, 3137, 16), (9024, 3142, 1005, 3141, 17), (9025, 3150, 1005, 3149, 19), (9026, 3154, 1005, 3153, 20), (9027, 3158, 1005, 3157, 21), (9028, 3162, 1005, 3161, 22), (9030, 3166, 1005, 3165, 23), (9031, 3170, 1005, 3169, 24), (9032, 3174, 1005, 3173, 25), (10002, 2168, 1004, 2166, 2167), (10003, 3201, 1004, 3199, 3200), (10004, 3182, 1004, 3180, 3181), (10005, 3189, 1004, 3187, 3188), (11002, 3120, 1003, 3118, 3119), (11003, 3116, 1003, 3114, 3115), (11004, 4059, 1003, 4057, 4058), (11005, 3218, 1003, 3216, 3217), (11006, 3133, 1003, 3131, 3132), (11007, 3197, 1003, 3195, 3196), (11008, 2161, 1003, 2159, 2160), (11009, 3112, 1003, 3110, 3111)]
theorem pn_MV_code8 : ∀ q ∈ pn_MV8, pn_at q.2.1 = some (Cond.code (pn_i q.1).2.1 (pn_i q.1).2.2.1 (pn_i q.1).2.2.2.1 (pn_i q.1).2.2.2.2.1) := by decide +kernel
def pn_MV9 : List (Nat × Nat × Nat × Nat × Nat) := [(11010, 4173, 1003, 4171, 4172), (11011, 3108, 1003, 3106, 3107), (11012, 4204, 1003, 4202, 4203), (11013, 4212, 1003, 4210, 4211), (11014, 3214, 1003, 3212, 3213), (11015, 4052, 1003, 4050, 4051), (11016, 4004, 1003, 4002, 4003), (11017, 4008, 1003, 4006, 4007), (11018, 4012, 1003, 4010, 4011), (11019, 4000, 1003, 3238, 3239), (11020, 4020, 1003, 4018, 4019), (11021, 6188, 1003, 6186, 6187), (11022, 3229, 1003, 3227, 3228), (11023, 5006, 1003, 5004, 5005), (11024, 5059, 1003, 5057, 5058), (11025, 5011, 1003, 5010, 43), (11027, 3233, 1003, 3231, 3232), (11028, 5067, 1003, 5065, 5066), (11029, 5075, 1003, 5073, 5074), (11030, 5079, 1003, 5078, 45), (11031, 4074, 1003, 4072, 4073), (11032, 5092, 1003, 5090, 5091), (11033, 5100, 1003, 5098, 5099), (11034, 5104, 1003, 5102, 5103), (12002, 2131, 1001, 2129, 2130)]
theorem pn_MV_code9 : ∀ q ∈ pn_MV9, pn_at q.2.1 = some (Cond.code (pn_i q.1).2.1 (pn_i q.1).2.2.1 (pn_i q.1).2.2.2.1 (pn_i q.1).2.2.2.2.1) := by decide +kernel
def pn_MV10 : List (Nat × Nat × Nat × Nat × Nat) := [(12003, 2143, 1001, 2141, 2142), (12004, 3205, 1001, 3203, 3204), (12005, 3209, 1001, 3207, 3208), (12006, 4016, 1001, 4014, 4015), (12007, 4024, 1001, 4022, 4023), (12008, 4126, 1001, 4124, 4125), (12009, 4130, 1001, 4128, 4129), (12010, 4135, 1001, 4133, 4134), (12011, 4152, 1001, 4150, 4151), (12012, 4163, 1001, 4161, 4162), (12013, 4177, 1001, 4175, 4176), (12014, 4181, 1001, 4179, 4180), (12015, 4200, 1001, 4198, 4199), (12016, 4208, 1001, 4206, 4207), (12017, 4218, 1001, 4216, 4217), (12018, 4226, 1001, 4224, 4225), (12019, 5015, 1001, 5013, 5014), (12020, 5019, 1001, 5017, 5018), (12021, 5045, 1001, 5043, 5044), (12022, 5055, 1001, 5053, 5054), (12023, 5063, 1001, 5061, 5062), (12024, 5071, 1001, 5069, 5070), (12025, 5083, 1001, 5081, 5082), (12026, 5088, 1001, 5086, 5087), (12027, 5096, 1001, 5094, 5095)]
theorem pn_MV_code10 : ∀ q ∈ pn_MV10, pn_at q.2.1 = some (Cond.code (pn_i q.1).2.1 (pn_i q.1).2.2.1 (pn_i q.1).2.2.2.1 (pn_i q.1).2.2.2.2.1) := by decide +kernel
def pn_MV11 : List (Nat × Nat × Nat × Nat × Nat) := [(12028, 5109, 1001, 5107, 5108), (12029, 5117, 1001, 5115, 5116), (12030, 5125, 1001, 5123, 5124), (12031, 5129, 1001, 5127, 5128), (12032, 5134, 1001, 5132, 5133), (12033, 5148, 1001, 5146, 5147), (12034, 5181, 1001, 5179, 5180), (12035, 5185, 1001, 5183, 5184), (12036, 5226, 1001, 5224, 5225), (12037, 5236, 1001, 5234, 5235), (12038, 6000, 1001, 5238, 5239), (12039, 6004, 1001, 6002, 6003), (12040, 6022, 1001, 6020, 6021), (12041, 6039, 1001, 6037, 6038), (12042, 6055, 1001, 6053, 6054), (12043, 6063, 1001, 6061, 6062), (12044, 6071, 1001, 6069, 6070), (12045, 6099, 1001, 6097, 6098), (12046, 6113, 1001, 6111, 6112), (12047, 6141, 1001, 6139, 6140), (12048, 6145, 1001, 6143, 6144), (12049, 6153, 1001, 6151, 6152), (12050, 6157, 1001, 6155, 6156), (12051, 6171, 1001, 6169, 6170), (12052, 6176, 1001, 6174, 6175)]
theorem pn_MV_code11 : ∀ q ∈ pn_MV11, pn_at q.2.1 = some (Cond.code (pn_i q.1).2.1 (pn_i q.1).2.2.1 (pn_i q.1).2.2.2.1 (pn_i q.1).2.2.2.2.1) := by decide +kernel
def pn_MV12 : List (Nat × Nat × Nat × Nat × Nat) := [(12053, 6180, 1001, 6178, 6179), (12054, 6184, 1001, 6182, 6183), (12057, 6046, 1001, 6045, 63), (12060, 4028, 1001, 4027, 27), (12061, 4195, 1001, 4194, 40), (12062, 4167, 1001, 4166, 38), (12063, 5023, 1001, 5022, 44), (12064, 4238, 1001, 4237, 42), (12066, 4234, 1001, 4233, 41), (12067, 6164, 1001, 6163, 68), (23000, 2210, 1016, 2208, 2209), (23001, 2214, 1016, 2212, 2213), (23002, 2220, 1016, 2218, 2219), (23003, 2224, 1016, 2222, 2223), (23005, 3037, 1016, 3035, 3036), (23006, 3041, 1016, 3039, 3040)]
theorem pn_MV_code12 : ∀ q ∈ pn_MV12, pn_at q.2.1 = some (Cond.code (pn_i q.1).2.1 (pn_i q.1).2.2.1 (pn_i q.1).2.2.2.1 (pn_i q.1).2.2.2.2.1) := by decide +kernel
theorem pn_MV_eq : pn_MV = pn_MV0 ++ (pn_MV1 ++ (pn_MV2 ++ (pn_MV3 ++ (pn_MV4 ++ (pn_MV5 ++ (pn_MV6 ++ (pn_MV7 ++ (pn_MV8 ++ (pn_MV9 ++ (pn_MV10 ++ (pn_MV11 ++ (pn_MV12)))))))))))) := by decide +kernel
theorem pn_MV_code : ∀ q ∈ pn_MV, pn_at q.2.1 = some (Cond.code (pn_i q.1).2.1 (pn_i q.1).2.2.1 (pn_i q.1).2.2.2.1 (pn_i q.1).2.2.2.2.1) := by
  intro q h
  rw [pn_MV_eq] at h
  simp only [List.mem_append] at h
  rcases h with h | h | h | h | h | h | h | h | h | h | h | h | h
  · exact pn_MV_code0 q h
  · exact pn_MV_code1 q h
  · exact pn_MV_code2 q h
  · exact pn_MV_code3 q h
  · exact pn_MV_code4 q h
  · exact pn_MV_code5 q h
  · exact pn_MV_code6 q h
  · exact pn_MV_code7 q h
  · exact pn_MV_code8 q h
  · exact pn_MV_code9 q h
  · exact pn_MV_code10 q h
  · exact pn_MV_code11 q h
  · exact pn_MV_code12 q h
