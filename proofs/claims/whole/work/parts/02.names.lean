-- printed by wip/whole/gen.py: the classes, their fields by slots, links, methods
def pn_own : Nat → String := fun k => match k with
  | 0 => "NoThreeModel"
  | 1 => "NoThree$Annals"
  | 2 => "NoThree$Council"
  | 3 => "NoThree$Feasts"
  | 4 => "NoThree$Gossip"
  | 5 => "NoThree$Healer"
  | 6 => "NoThree$Kin"
  | 7 => "NoThree$Market"
  | 8 => "NoThree$Painter"
  | 9 => "NoThree$Reader"
  | 10 => "NoThree$Rules"
  | 11 => "NoThree$Town"
  | 12 => "NoThree"
  | 20 => "java/lang/Math"
  | 21 => "java/lang/Integer"
  | 22 => "java/util/Arrays"
  | 23 => "java/lang/String"
  | 24 => "java/lang/StringLatin1"
  | 25 => "jdk/internal/util/Preconditions"
  | 30 => "NoThreeLaw"
  | _ => "java/lang/Object"
def pn_T0 : u_T := fun k => match k with
  | 0 => ("NoThreeModel", "thrown", "I", false)
  | 1 => ("NoThreeModel", "all", "[I", true)
  | 2 => ("NoThreeModel", "hasImage", "[Z", true)
  | 3 => ("NoThreeModel", "tape", "[I", true)
  | 4 => ("NoThreeModel", "fresh", "[I", true)
  | 5 => ("NoThreeModel", "taped", "I", false)
  | 6 => ("NoThreeModel", "at", "I", false)
  | 7 => ("NoThreeModel", "behind", "I", false)
  | 8 => ("NoThreeModel", "size", "I", false)
  | 9 => ("NoThreeModel", "kind", "I", false)
  | 10 => ("NoThreeModel", "number", "I", false)
  | 11 => ("NoThreeModel", "wrong", "I", false)
  | 12 => ("NoThreeModel", "wrongAt", "I", false)
  | 13 => ("NoThreeModel", "faultKind", "I", false)
  | 14 => ("NoThreeModel", "faultPlace", "I", false)
  | 15 => ("NoThreeModel", "far", "[I", true)
  | 16 => ("NoThreeModel", "colourOf", "[I", true)
  | 17 => ("NoThreeModel", "reckoned", "[I", true)
  | 18 => ("NoThreeModel", "town", "[I", true)
  | 19 => ("NoThreeModel", "held", "[I", true)
  | 20 => ("NoThreeModel", "tried", "[I", true)
  | 21 => ("NoThreeModel", "why1", "I", false)
  | 22 => ("NoThreeModel", "x", "I", false)
  | 23 => ("NoThreeModel", "waysOf", "[J", true)
  | 24 => ("NoThreeModel", "waysMore", "[J", true)
  | 25 => ("NoThreeModel", "knows", "[Z", true)
  | 26 => ("NoThreeModel", "knew", "[Z", true)
  | 27 => ("NoThreeModel", "placeOf", "[I", true)
  | 28 => ("NoThreeModel", "other", "[I", true)
  | 29 => ("NoThreeModel", "found", "I", false)
  | 30 => ("NoThreeModel", "otherMany", "I", false)
  | 31 => ("NoThreeModel", "cureOf", "[I", true)
  | 32 => ("NoThreeModel", "threeFirst", "I", false)
  | 33 => ("NoThreeModel", "threeSecond", "I", false)
  | 34 => ("NoThreeModel", "threeThird", "I", false)
  | 35 => ("NoThreeModel", "rowSort", "[I", true)
  | 36 => ("NoThreeModel", "rowMany", "[I", true)
  | _ => ("NoThreeModel", "numbers", "[J", true)
def pn_ty0 : Nat → FieldType := fun k => match k with
  | 0 => .int
  | 1 => .array .int
  | 2 => .array .boolean
  | 3 => .array .int
  | 4 => .array .int
  | 5 => .int
  | 6 => .int
  | 7 => .int
  | 8 => .int
  | 9 => .int
  | 10 => .int
  | 11 => .int
  | 12 => .int
  | 13 => .int
  | 14 => .int
  | 15 => .array .int
  | 16 => .array .int
  | 17 => .array .int
  | 18 => .array .int
  | 19 => .array .int
  | 20 => .array .int
  | 21 => .int
  | 22 => .int
  | 23 => .array .long
  | 24 => .array .long
  | 25 => .array .boolean
  | 26 => .array .boolean
  | 27 => .array .int
  | 28 => .array .int
  | 29 => .int
  | 30 => .int
  | 31 => .array .int
  | 32 => .int
  | 33 => .int
  | 34 => .int
  | 35 => .array .int
  | 36 => .array .int
  | _ => .array .long
theorem pn_nm0 : ∀ a, a < 38 → ∀ b, b < 38 → a ≠ b → (pn_T0 a).2.1 ≠ (pn_T0 b).2.1 := by decide +kernel
theorem pn_tok0 : ∀ k, k < 38 → parseFieldDescriptor (pn_T0 k).2.2.1 = some (pn_ty0 k) := by decide +kernel
theorem pn_in0 : ∀ w ∈ u_ws "NoThreeModel" pn_T0 38, w ∈ lw_tbl.filter goodWord := by decide +kernel
def pn_T1 : u_T := fun k => match k with
  | 0 => ("NoThree$Annals", "town", "LNoThree$Town;", true)
  | 1 => ("NoThree$Annals", "rules", "LNoThree$Rules;", true)
  | 2 => ("NoThree$Annals", "lines", "I", false)
  | 3 => ("NoThree$Annals", "deeds", "I", false)
  | 4 => ("NoThree$Annals", "latest", "I", false)
  | _ => ("NoThree$Annals", "past", "[I", true)
def pn_ty1 : Nat → FieldType := fun k => match k with
  | 0 => .object "NoThree$Town"
  | 1 => .object "NoThree$Rules"
  | 2 => .int
  | 3 => .int
  | 4 => .int
  | _ => .array .int
theorem pn_nm1 : ∀ a, a < 6 → ∀ b, b < 6 → a ≠ b → (pn_T1 a).2.1 ≠ (pn_T1 b).2.1 := by decide +kernel
theorem pn_tok1 : ∀ k, k < 6 → parseFieldDescriptor (pn_T1 k).2.2.1 = some (pn_ty1 k) := by decide +kernel
theorem pn_in1 : ∀ w ∈ u_ws "NoThree$Annals" pn_T1 6, w ∈ lw_tbl.filter goodWord := by decide +kernel
def pn_T2 : u_T := fun k => match k with
  | 0 => ("NoThree$Council", "painter", "LNoThree$Painter;", true)
  | 1 => ("NoThree$Council", "trial", "LNoThree$Town;", true)
  | 2 => ("NoThree$Council", "stack", "[I", true)
  | 3 => ("NoThree$Council", "holding", "[I", true)
  | 4 => ("NoThree$Council", "meanings", "[I", true)
  | 5 => ("NoThree$Council", "rules", "LNoThree$Rules;", false)
  | 6 => ("NoThree$Council", "town", "LNoThree$Town;", false)
  | 7 => ("NoThree$Council", "asked", "LNoThree$Town;", false)
  | 8 => ("NoThree$Council", "known", "I", false)
  | _ => ("NoThree$Council", "surveyed", "Z", false)
def pn_ty2 : Nat → FieldType := fun k => match k with
  | 0 => .object "NoThree$Painter"
  | 1 => .object "NoThree$Town"
  | 2 => .array .int
  | 3 => .array .int
  | 4 => .array .int
  | 5 => .object "NoThree$Rules"
  | 6 => .object "NoThree$Town"
  | 7 => .object "NoThree$Town"
  | 8 => .int
  | _ => .boolean
theorem pn_nm2 : ∀ a, a < 10 → ∀ b, b < 10 → a ≠ b → (pn_T2 a).2.1 ≠ (pn_T2 b).2.1 := by decide +kernel
theorem pn_tok2 : ∀ k, k < 10 → parseFieldDescriptor (pn_T2 k).2.2.1 = some (pn_ty2 k) := by decide +kernel
theorem pn_in2 : ∀ w ∈ u_ws "NoThree$Council" pn_T2 10, w ∈ lw_tbl.filter goodWord := by decide +kernel
def pn_T3 : u_T := fun k => match k with
  | 0 => ("NoThree$Feasts", "around", "[I", true)
  | _ => ("NoThree$Feasts", "all", "I", false)
def pn_ty3 : Nat → FieldType := fun k => match k with
  | 0 => .array .int
  | _ => .int
theorem pn_nm3 : ∀ a, a < 2 → ∀ b, b < 2 → a ≠ b → (pn_T3 a).2.1 ≠ (pn_T3 b).2.1 := by decide +kernel
theorem pn_tok3 : ∀ k, k < 2 → parseFieldDescriptor (pn_T3 k).2.2.1 = some (pn_ty3 k) := by decide +kernel
theorem pn_in3 : ∀ w ∈ u_ws "NoThree$Feasts" pn_T3 2, w ∈ lw_tbl.filter goodWord := by decide +kernel
def pn_T4 : u_T := fun k => match k with
  | 0 => ("NoThree$Gossip", "sets", "LNoThree$Feasts;", true)
  | 1 => ("NoThree$Gossip", "lost", "[I", true)
  | 2 => ("NoThree$Gossip", "elders", "[I", true)
  | 3 => ("NoThree$Gossip", "town", "LNoThree$Town;", false)
  | _ => ("NoThree$Gossip", "goal", "I", false)
def pn_ty4 : Nat → FieldType := fun k => match k with
  | 0 => .object "NoThree$Feasts"
  | 1 => .array .int
  | 2 => .array .int
  | 3 => .object "NoThree$Town"
  | _ => .int
theorem pn_nm4 : ∀ a, a < 5 → ∀ b, b < 5 → a ≠ b → (pn_T4 a).2.1 ≠ (pn_T4 b).2.1 := by decide +kernel
theorem pn_tok4 : ∀ k, k < 5 → parseFieldDescriptor (pn_T4 k).2.2.1 = some (pn_ty4 k) := by decide +kernel
theorem pn_in4 : ∀ w ∈ u_ws "NoThree$Gossip" pn_T4 5, w ∈ lw_tbl.filter goodWord := by decide +kernel
def pn_T5 : u_T := fun k => match k with
  | 0 => ("NoThree$Healer", "patient", "LNoThree$Town;", true)
  | _ => ("NoThree$Healer", "best", "J", false)
def pn_ty5 : Nat → FieldType := fun k => match k with
  | 0 => .object "NoThree$Town"
  | _ => .long
theorem pn_nm5 : ∀ a, a < 2 → ∀ b, b < 2 → a ≠ b → (pn_T5 a).2.1 ≠ (pn_T5 b).2.1 := by decide +kernel
theorem pn_tok5 : ∀ k, k < 2 → parseFieldDescriptor (pn_T5 k).2.2.1 = some (pn_ty5 k) := by decide +kernel
theorem pn_in5 : ∀ w ∈ u_ws "NoThree$Healer" pn_T5 2, w ∈ lw_tbl.filter goodWord := by decide +kernel
def pn_T6 : u_T := fun k => match k with
  | 0 => ("NoThree$Kin", "match", "[I", true)
  | 1 => ("NoThree$Kin", "one", "LNoThree$Town;", false)
  | 2 => ("NoThree$Kin", "other", "LNoThree$Town;", false)
  | _ => ("NoThree$Kin", "least", "I", false)
def pn_ty6 : Nat → FieldType := fun k => match k with
  | 0 => .array .int
  | 1 => .object "NoThree$Town"
  | 2 => .object "NoThree$Town"
  | _ => .int
theorem pn_nm6 : ∀ a, a < 4 → ∀ b, b < 4 → a ≠ b → (pn_T6 a).2.1 ≠ (pn_T6 b).2.1 := by decide +kernel
theorem pn_tok6 : ∀ k, k < 4 → parseFieldDescriptor (pn_T6 k).2.2.1 = some (pn_ty6 k) := by decide +kernel
theorem pn_in6 : ∀ w ∈ u_ws "NoThree$Kin" pn_T6 4, w ∈ lw_tbl.filter goodWord := by decide +kernel
def pn_T7 : u_T := fun k => match k with
  | 0 => ("NoThree$Market", "scene", "LNoThree$Town;", true)
  | _ => ("NoThree$Market", "trial", "LNoThree$Town;", true)
def pn_ty7 : Nat → FieldType := fun k => match k with
  | 0 => .object "NoThree$Town"
  | _ => .object "NoThree$Town"
theorem pn_nm7 : ∀ a, a < 2 → ∀ b, b < 2 → a ≠ b → (pn_T7 a).2.1 ≠ (pn_T7 b).2.1 := by decide +kernel
theorem pn_tok7 : ∀ k, k < 2 → parseFieldDescriptor (pn_T7 k).2.2.1 = some (pn_ty7 k) := by decide +kernel
theorem pn_in7 : ∀ w ∈ u_ws "NoThree$Market" pn_T7 2, w ∈ lw_tbl.filter goodWord := by decide +kernel
def pn_T8 : u_T := fun k => match k with
  | 0 => ("NoThree$Painter", "wearers", "[I", true)
  | 1 => ("NoThree$Painter", "sketch", "[I", true)
  | _ => ("NoThree$Painter", "town", "LNoThree$Town;", false)
def pn_ty8 : Nat → FieldType := fun k => match k with
  | 0 => .array .int
  | 1 => .array .int
  | _ => .object "NoThree$Town"
theorem pn_nm8 : ∀ a, a < 3 → ∀ b, b < 3 → a ≠ b → (pn_T8 a).2.1 ≠ (pn_T8 b).2.1 := by decide +kernel
theorem pn_tok8 : ∀ k, k < 3 → parseFieldDescriptor (pn_T8 k).2.2.1 = some (pn_ty8 k) := by decide +kernel
theorem pn_in8 : ∀ w ∈ u_ws "NoThree$Painter" pn_T8 3, w ∈ lw_tbl.filter goodWord := by decide +kernel
def pn_T9 : u_T := fun k => match k with
  | 0 => ("NoThree$Reader", "onTape", "I", false)
  | 1 => ("NoThree$Reader", "faultKind", "I", false)
  | 2 => ("NoThree$Reader", "faultPlace", "I", false)
  | 3 => ("NoThree$Reader", "draft", "LNoThree$Annals;", true)
  | 4 => ("NoThree$Reader", "tape", "[B", true)
  | 5 => ("NoThree$Reader", "tokens", "[I", true)
  | 6 => ("NoThree$Reader", "places", "[I", true)
  | 7 => ("NoThree$Reader", "end", "I", false)
  | 8 => ("NoThree$Reader", "next", "I", false)
  | _ => ("NoThree$Reader", "token", "I", false)
def pn_ty9 : Nat → FieldType := fun k => match k with
  | 0 => .int
  | 1 => .int
  | 2 => .int
  | 3 => .object "NoThree$Annals"
  | 4 => .array .byte
  | 5 => .array .int
  | 6 => .array .int
  | 7 => .int
  | 8 => .int
  | _ => .int
theorem pn_nm9 : ∀ a, a < 10 → ∀ b, b < 10 → a ≠ b → (pn_T9 a).2.1 ≠ (pn_T9 b).2.1 := by decide +kernel
theorem pn_tok9 : ∀ k, k < 10 → parseFieldDescriptor (pn_T9 k).2.2.1 = some (pn_ty9 k) := by decide +kernel
theorem pn_in9 : ∀ w ∈ u_ws "NoThree$Reader" pn_T9 10, w ∈ lw_tbl.filter goodWord := by decide +kernel
def pn_T10 : u_T := fun k => match k with
  | 0 => ("NoThree$Rules", "number", "I", false)
  | 1 => ("NoThree$Rules", "starts", "[I", true)
  | 2 => ("NoThree$Rules", "uses", "[I", true)
  | 3 => ("NoThree$Rules", "code", "[I", true)
  | _ => ("NoThree$Rules", "length", "I", false)
def pn_ty10 : Nat → FieldType := fun k => match k with
  | 0 => .int
  | 1 => .array .int
  | 2 => .array .int
  | 3 => .array .int
  | _ => .int
theorem pn_nm10 : ∀ a, a < 5 → ∀ b, b < 5 → a ≠ b → (pn_T10 a).2.1 ≠ (pn_T10 b).2.1 := by decide +kernel
theorem pn_tok10 : ∀ k, k < 5 → parseFieldDescriptor (pn_T10 k).2.2.1 = some (pn_ty10 k) := by decide +kernel
theorem pn_in10 : ∀ w ∈ u_ws "NoThree$Rules" pn_T10 5, w ∈ lw_tbl.filter goodWord := by decide +kernel
def pn_T11 : u_T := fun k => match k with
  | 0 => ("NoThree$Town", "houses", "I", false)
  | _ => ("NoThree$Town", "near", "[I", true)
def pn_ty11 : Nat → FieldType := fun k => match k with
  | 0 => .int
  | _ => .array .int
theorem pn_nm11 : ∀ a, a < 2 → ∀ b, b < 2 → a ≠ b → (pn_T11 a).2.1 ≠ (pn_T11 b).2.1 := by decide +kernel
theorem pn_tok11 : ∀ k, k < 2 → parseFieldDescriptor (pn_T11 k).2.2.1 = some (pn_ty11 k) := by decide +kernel
theorem pn_in11 : ∀ w ∈ u_ws "NoThree$Town" pn_T11 2, w ∈ lw_tbl.filter goodWord := by decide +kernel
def pn_T12 : u_T := fun k => match k with
  | 0 => ("NoThree", "now", "LNoThree$Annals;", true)
  | 1 => ("NoThree", "images", "[LNoThree$Annals;", true)
  | 2 => ("NoThree", "imageMade", "[Z", true)
  | 3 => ("NoThree", "reader", "LNoThree$Reader;", true)
  | 4 => ("NoThree", "feasting", "LNoThree$Feasts;", true)
  | 5 => ("NoThree", "painter", "LNoThree$Painter;", true)
  | 6 => ("NoThree", "gossip", "LNoThree$Gossip;", true)
  | 7 => ("NoThree", "kin", "LNoThree$Kin;", true)
  | 8 => ("NoThree", "healer", "LNoThree$Healer;", true)
  | 9 => ("NoThree", "council", "LNoThree$Council;", true)
  | 10 => ("NoThree", "market", "LNoThree$Market;", true)
  | 11 => ("NoThree", "asIf", "LNoThree$Town;", true)
  | 12 => ("NoThree", "rowNumbers", "[J", true)
  | 13 => ("NoThree", "rowSorts", "[I", true)
  | _ => ("NoThree", "rowSizes", "[I", true)
def pn_ty12 : Nat → FieldType := fun k => match k with
  | 0 => .object "NoThree$Annals"
  | 1 => .array (.object "NoThree$Annals")
  | 2 => .array .boolean
  | 3 => .object "NoThree$Reader"
  | 4 => .object "NoThree$Feasts"
  | 5 => .object "NoThree$Painter"
  | 6 => .object "NoThree$Gossip"
  | 7 => .object "NoThree$Kin"
  | 8 => .object "NoThree$Healer"
  | 9 => .object "NoThree$Council"
  | 10 => .object "NoThree$Market"
  | 11 => .object "NoThree$Town"
  | 12 => .array .long
  | 13 => .array .int
  | _ => .array .int
theorem pn_nm12 : ∀ a, a < 15 → ∀ b, b < 15 → a ≠ b → (pn_T12 a).2.1 ≠ (pn_T12 b).2.1 := by decide +kernel
theorem pn_tok12 : ∀ k, k < 15 → parseFieldDescriptor (pn_T12 k).2.2.1 = some (pn_ty12 k) := by decide +kernel
theorem pn_in12 : ∀ w ∈ u_ws "NoThree" pn_T12 15, w ∈ lw_tbl.filter goodWord := by decide +kernel
/-- the classes of the worlds: number, name, fields -/
def pn_cl : List vw_C := [("NoThreeModel", pn_T0, 38), ("NoThree$Annals", pn_T1, 6), ("NoThree$Council", pn_T2, 10), ("NoThree$Feasts", pn_T3, 2), ("NoThree$Gossip", pn_T4, 5), ("NoThree$Healer", pn_T5, 2), ("NoThree$Kin", pn_T6, 4), ("NoThree$Market", pn_T7, 2), ("NoThree$Painter", pn_T8, 3), ("NoThree$Reader", pn_T9, 10), ("NoThree$Rules", pn_T10, 5), ("NoThree$Town", pn_T11, 2), ("NoThree", pn_T12, 15)]
/-- the kinds of a class's fields: 0 int, 1 long, 2 reference, 3 boolean -/
def pn_fk : Nat → List Nat := fun k => match k with
  | 0 => [0, 2, 2, 2, 2, 0, 0, 0, 0, 0, 0, 0, 0, 0, 0, 2, 2, 2, 2, 2, 2, 0, 0, 2, 2, 2, 2, 2, 2, 0, 0, 2, 0, 0, 0, 2, 2, 2]
  | 1 => [2, 2, 0, 0, 0, 2]
  | 2 => [2, 2, 2, 2, 2, 2, 2, 2, 0, 3]
  | 3 => [2, 0]
  | 4 => [2, 2, 2, 2, 0]
  | 5 => [2, 1]
  | 6 => [2, 2, 2, 0]
  | 7 => [2, 2]
  | 8 => [2, 2, 2]
  | 9 => [0, 0, 0, 2, 2, 2, 2, 0, 0, 0]
  | 10 => [0, 2, 2, 2, 0]
  | 11 => [0, 2]
  | 12 => [2, 2, 2, 2, 2, 2, 2, 2, 2, 2, 2, 2, 2, 2, 2]
  | _ => []
/-- methods by their keys: class number, name, bytes, locals, answer, the number of its parameters -/
abbrev pn_I : Type := Nat × MethodName × ByteArray × Nat × Option FieldType × Nat
def pn_i2 : pn_I := (0, ⟨"NoThreeModel", "within", "(JJJ)Z"⟩, prog_14_method_2_code, 6, (some .boolean), 3)
def pn_i3 : pn_I := (0, ⟨"NoThreeModel", "<init>", "()V"⟩, prog_14_method_3_code, 1, none, 0)
def pn_i4 : pn_I := (0, ⟨"NoThreeModel", "feed", "(IIIII)I"⟩, prog_14_method_4_code, 8, (some .int), 5)
def pn_i5 : pn_I := (0, ⟨"NoThreeModel", "see", "(I)I"⟩, prog_14_method_5_code, 2, (some .int), 1)
def pn_i6 : pn_I := (0, ⟨"NoThreeModel", "isSmall", "(I)Z"⟩, prog_14_method_6_code, 1, (some .boolean), 1)
def pn_i7 : pn_I := (0, ⟨"NoThreeModel", "isDigit", "(I)Z"⟩, prog_14_method_7_code, 1, (some .boolean), 1)
def pn_i8 : pn_I := (0, ⟨"NoThreeModel", "keyAt", "()I"⟩, prog_14_method_8_code, 4, (some .int), 0)
def pn_i9 : pn_I := (0, ⟨"NoThreeModel", "next", "()V"⟩, prog_14_method_9_code, 2, none, 0)
def pn_i10 : pn_I := (0, ⟨"NoThreeModel", "fails", "(I)V"⟩, prog_14_method_10_code, 2, none, 1)
def pn_i11 : pn_I := (0, ⟨"NoThreeModel", "is", "(I)Z"⟩, prog_14_method_11_code, 2, (some .boolean), 1)
def pn_i12 : pn_I := (0, ⟨"NoThreeModel", "eats", "(I)Z"⟩, prog_14_method_12_code, 2, (some .boolean), 1)
def pn_i13 : pn_I := (0, ⟨"NoThreeModel", "takes", "(II)I"⟩, prog_14_method_13_code, 4, (some .int), 2)
def pn_i14 : pn_I := (0, ⟨"NoThreeModel", "isIn", "(JI)Z"⟩, prog_14_method_14_code, 3, (some .boolean), 2)
def pn_i15 : pn_I := (0, ⟨"NoThreeModel", "joins", "([III)V"⟩, prog_14_method_15_code, 3, none, 3)
def pn_i16 : pn_I := (0, ⟨"NoThreeModel", "readHouses", "()V"⟩, prog_14_method_16_code, 2, none, 0)
def pn_i17 : pn_I := (0, ⟨"NoThreeModel", "readDoor", "()V"⟩, prog_14_method_17_code, 3, none, 0)
def pn_i18 : pn_I := (0, ⟨"NoThreeModel", "readRing", "()V"⟩, prog_14_method_18_code, 6, none, 0)
def pn_i19 : pn_I := (0, ⟨"NoThreeModel", "codes", "(I)V"⟩, prog_14_method_19_code, 2, none, 1)
def pn_i20 : pn_I := (0, ⟨"NoThreeModel", "goesIn", "(I)Z"⟩, prog_14_method_20_code, 2, (some .boolean), 1)
def pn_i21 : pn_I := (0, ⟨"NoThreeModel", "readAtom", "(I)V"⟩, prog_14_method_21_code, 2, none, 1)
def pn_i22 : pn_I := (0, ⟨"NoThreeModel", "readTerm", "(I)V"⟩, prog_14_method_22_code, 2, none, 1)
def pn_i23 : pn_I := (0, ⟨"NoThreeModel", "readSum", "(I)V"⟩, prog_14_method_23_code, 3, none, 1)
def pn_i24 : pn_I := (0, ⟨"NoThreeModel", "readUnit", "(I)V"⟩, prog_14_method_24_code, 3, none, 1)
def pn_i25 : pn_I := (0, ⟨"NoThreeModel", "readBoth", "(I)V"⟩, prog_14_method_25_code, 2, none, 1)
def pn_i26 : pn_I := (0, ⟨"NoThreeModel", "readTruth", "(I)V"⟩, prog_14_method_26_code, 2, none, 1)
def pn_i27 : pn_I := (0, ⟨"NoThreeModel", "readRule", "()V"⟩, prog_14_method_27_code, 3, none, 0)
def pn_i28 : pn_I := (0, ⟨"NoThreeModel", "town", "(I)I"⟩, prog_14_method_28_code, 3, (some .int), 1)
def pn_i29 : pn_I := (0, ⟨"NoThreeModel", "fault", "(I)I"⟩, prog_14_method_29_code, 2, (some .int), 1)
def pn_i30 : pn_I := (0, ⟨"NoThreeModel", "isHouse", "(J)Z"⟩, prog_14_method_30_code, 3, (some .boolean), 1)
def pn_i31 : pn_I := (0, ⟨"NoThreeModel", "near", "(I)I"⟩, prog_14_method_31_code, 2, (some .int), 1)
def pn_i32 : pn_I := (0, ⟨"NoThreeModel", "bitsOf", "(I)I"⟩, prog_14_method_32_code, 3, (some .int), 1)
def pn_i33 : pn_I := (0, ⟨"NoThreeModel", "threesOf", "(I)I"⟩, prog_14_method_33_code, 4, (some .int), 1)
def pn_i34 : pn_I := (0, ⟨"NoThreeModel", "foursOf", "(I)I"⟩, prog_14_method_34_code, 5, (some .int), 1)
def pn_i35 : pn_I := (0, ⟨"NoThreeModel", "laysFar", "(I)I"⟩, prog_14_method_35_code, 7, (some .int), 1)
def pn_i36 : pn_I := (0, ⟨"NoThreeModel", "reachedFrom", "(I)I"⟩, prog_14_method_36_code, 4, (some .int), 1)
def pn_i37 : pn_I := (0, ⟨"NoThreeModel", "twoAway", "(I)I"⟩, prog_14_method_37_code, 4, (some .int), 1)
def pn_i38 : pn_I := (0, ⟨"NoThreeModel", "house", "(II)I"⟩, prog_14_method_38_code, 3, (some .int), 2)
def pn_i39 : pn_I := (0, ⟨"NoThreeModel", "steps", "(II)I"⟩, prog_14_method_39_code, 3, (some .int), 2)
def pn_i40 : pn_I := (0, ⟨"NoThreeModel", "isFeast", "(I)Z"⟩, prog_14_method_40_code, 3, (some .boolean), 1)
def pn_i41 : pn_I := (0, ⟨"NoThreeModel", "feastWith", "(I)I"⟩, prog_14_method_41_code, 4, (some .int), 1)
def pn_i42 : pn_I := (0, ⟨"NoThreeModel", "dyes", "(III)Z"⟩, prog_14_method_42_code, 7, (some .boolean), 3)
def pn_i43 : pn_I := (0, ⟨"NoThreeModel", "fewestColours", "(I)I"⟩, prog_14_method_43_code, 3, (some .int), 1)
def pn_i44 : pn_I := (0, ⟨"NoThreeModel", "halfOf", "()I"⟩, prog_14_method_44_code, 5, (some .int), 0)
def pn_i45 : pn_I := (0, ⟨"NoThreeModel", "doorMany", "()I"⟩, prog_14_method_45_code, 3, (some .int), 0)
def pn_i46 : pn_I := (0, ⟨"NoThreeModel", "wordOf", "(II)I"⟩, prog_14_method_46_code, 3, (some .int), 2)
def pn_i47 : pn_I := (0, ⟨"NoThreeModel", "between", "(III)I"⟩, prog_14_method_47_code, 5, (some .int), 3)
def pn_i48 : pn_I := (0, ⟨"NoThreeModel", "ruleHolds", "(II)Z"⟩, prog_14_method_48_code, 6, (some .boolean), 2)
def pn_i49 : pn_I := (0, ⟨"NoThreeModel", "holds", "(II)I"⟩, prog_14_method_49_code, 3, (some .int), 2)
def pn_i50 : pn_I := (0, ⟨"NoThreeModel", "broken", "(I)I"⟩, prog_14_method_50_code, 4, (some .int), 1)
def pn_i51 : pn_I := (0, ⟨"NoThreeModel", "breaches", "()I"⟩, prog_14_method_51_code, 4, (some .int), 0)
def pn_i52 : pn_I := (0, ⟨"NoThreeModel", "keeps", "([I)V"⟩, prog_14_method_52_code, 3, none, 1)
def pn_i53 : pn_I := (0, ⟨"NoThreeModel", "isAgain", "([I)V"⟩, prog_14_method_53_code, 3, none, 1)
def pn_i54 : pn_I := (0, ⟨"NoThreeModel", "heldBy", "(I)I"⟩, prog_14_method_54_code, 4, (some .int), 1)
def pn_i55 : pn_I := (0, ⟨"NoThreeModel", "laysHeld", "()V"⟩, prog_14_method_55_code, 2, none, 0)
def pn_i56 : pn_I := (0, ⟨"NoThreeModel", "stillHold", "(I)Z"⟩, prog_14_method_56_code, 4, (some .boolean), 1)
def pn_i57 : pn_I := (0, ⟨"NoThreeModel", "refusesJoin", "(JJ)I"⟩, prog_14_method_57_code, 8, (some .int), 2)
def pn_i58 : pn_I := (0, ⟨"NoThreeModel", "notes", "()V"⟩, prog_14_method_58_code, 2, none, 0)
def pn_i59 : pn_I := (0, ⟨"NoThreeModel", "walls", "(II)V"⟩, prog_14_method_59_code, 3, none, 2)
def pn_i60 : pn_I := (0, ⟨"NoThreeModel", "why", "(II)I"⟩, prog_14_method_60_code, 3, (some .int), 2)
def pn_i61 : pn_I := (0, ⟨"NoThreeModel", "join", "(II)I"⟩, prog_14_method_61_code, 4, (some .int), 2)
def pn_i62 : pn_I := (0, ⟨"NoThreeModel", "wall", "(II)I"⟩, prog_14_method_62_code, 3, (some .int), 2)
def pn_i63 : pn_I := (0, ⟨"NoThreeModel", "may", "(I)I"⟩, prog_14_method_63_code, 4, (some .int), 1)
def pn_i64 : pn_I := (0, ⟨"NoThreeModel", "enters", "(I)V"⟩, prog_14_method_64_code, 4, none, 1)
def pn_i65 : pn_I := (0, ⟨"NoThreeModel", "refusesEnter", "(J)I"⟩, prog_14_method_65_code, 5, (some .int), 1)
def pn_i66 : pn_I := (0, ⟨"NoThreeModel", "enter", "(I)I"⟩, prog_14_method_66_code, 3, (some .int), 1)
def pn_i67 : pn_I := (0, ⟨"NoThreeModel", "without", "(II)I"⟩, prog_14_method_67_code, 2, (some .int), 2)
def pn_i68 : pn_I := (0, ⟨"NoThreeModel", "leaves", "(I)V"⟩, prog_14_method_68_code, 3, none, 1)
def pn_i69 : pn_I := (0, ⟨"NoThreeModel", "leave", "(I)I"⟩, prog_14_method_69_code, 2, (some .int), 1)
def pn_i70 : pn_I := (0, ⟨"NoThreeModel", "weave", "()I"⟩, prog_14_method_70_code, 4, (some .int), 0)
def pn_i71 : pn_I := (0, ⟨"NoThreeModel", "undo", "(I)I"⟩, prog_14_method_71_code, 3, (some .int), 1)
def pn_i72 : pn_I := (0, ⟨"NoThreeModel", "actsOf", "(IZ)I"⟩, prog_14_method_72_code, 12, (some .int), 2)
def pn_i73 : pn_I := (0, ⟨"NoThreeModel", "threeMany", "()I"⟩, prog_14_method_73_code, 3, (some .int), 0)
def pn_i74 : pn_I := (0, ⟨"NoThreeModel", "judge", "(II)I"⟩, prog_14_method_74_code, 6, (some .int), 2)
def pn_i75 : pn_I := (0, ⟨"NoThreeModel", "perform", "(I)I"⟩, prog_14_method_75_code, 2, (some .int), 1)
def pn_i76 : pn_I := (0, ⟨"NoThreeModel", "growsBy", "()I"⟩, prog_14_method_76_code, 3, (some .int), 0)
def pn_i77 : pn_I := (0, ⟨"NoThreeModel", "grow", "(I)I"⟩, prog_14_method_77_code, 4, (some .int), 1)
def pn_i78 : pn_I := (0, ⟨"NoThreeModel", "draw", "(I)I"⟩, prog_14_method_78_code, 2, (some .int), 1)
def pn_i79 : pn_I := (0, ⟨"NoThreeModel", "century", "(II)I"⟩, prog_14_method_79_code, 8, (some .int), 2)
def pn_i80 : pn_I := (0, ⟨"NoThreeModel", "three", "(I)I"⟩, prog_14_method_80_code, 6, (some .int), 1)
def pn_i81 : pn_I := (0, ⟨"NoThreeModel", "fours", "()I"⟩, prog_14_method_81_code, 3, (some .int), 0)
def pn_i82 : pn_I := (0, ⟨"NoThreeModel", "scandal", "()I"⟩, prog_14_method_82_code, 5, (some .int), 0)
def pn_i83 : pn_I := (0, ⟨"NoThreeModel", "halves", "()I"⟩, prog_14_method_83_code, 1, (some .int), 0)
def pn_i84 : pn_I := (0, ⟨"NoThreeModel", "likes", "(IZ)I"⟩, prog_14_method_84_code, 8, (some .int), 2)
def pn_i85 : pn_I := (0, ⟨"NoThreeModel", "strangers", "()I"⟩, prog_14_method_85_code, 1, (some .int), 0)
def pn_i86 : pn_I := (0, ⟨"NoThreeModel", "six", "(I)I"⟩, prog_14_method_86_code, 6, (some .int), 1)
def pn_i87 : pn_I := (0, ⟨"NoThreeModel", "feasts", "()I"⟩, prog_14_method_87_code, 3, (some .int), 0)
def pn_i88 : pn_I := (0, ⟨"NoThreeModel", "isFull", "(I)Z"⟩, prog_14_method_88_code, 3, (some .boolean), 1)
def pn_i89 : pn_I := (0, ⟨"NoThreeModel", "full", "()I"⟩, prog_14_method_89_code, 3, (some .int), 0)
def pn_i90 : pn_I := (0, ⟨"NoThreeModel", "feast", "(I)I"⟩, prog_14_method_90_code, 2, (some .int), 1)
def pn_i91 : pn_I := (0, ⟨"NoThreeModel", "colours", "()I"⟩, prog_14_method_91_code, 1, (some .int), 0)
def pn_i92 : pn_I := (0, ⟨"NoThreeModel", "colour", "(I)I"⟩, prog_14_method_92_code, 2, (some .int), 1)
def pn_i93 : pn_I := (0, ⟨"NoThreeModel", "ways", "(I)J"⟩, prog_14_method_93_code, 5, (some .long), 1)
def pn_i94 : pn_I := (0, ⟨"NoThreeModel", "dear", "()I"⟩, prog_14_method_94_code, 3, (some .int), 0)
def pn_i95 : pn_I := (0, ⟨"NoThreeModel", "tells", "(III)V"⟩, prog_14_method_95_code, 5, none, 3)
def pn_i96 : pn_I := (0, ⟨"NoThreeModel", "tellingOf", "(I)I"⟩, prog_14_method_96_code, 5, (some .int), 1)
def pn_i97 : pn_I := (0, ⟨"NoThreeModel", "isLess", "(I)Z"⟩, prog_14_method_97_code, 3, (some .boolean), 1)
def pn_i98 : pn_I := (0, ⟨"NoThreeModel", "telling", "(I)I"⟩, prog_14_method_98_code, 2, (some .int), 1)
def pn_i99 : pn_I := (0, ⟨"NoThreeModel", "teller", "()I"⟩, prog_14_method_99_code, 7, (some .int), 0)
def pn_i100 : pn_I := (0, ⟨"NoThreeModel", "safe", "(II)I"⟩, prog_14_method_100_code, 5, (some .int), 2)
def pn_i101 : pn_I := (0, ⟨"NoThreeModel", "wide", "(I)I"⟩, prog_14_method_101_code, 6, (some .int), 1)
def pn_i102 : pn_I := (0, ⟨"NoThreeModel", "bitAt", "(II)I"⟩, prog_14_method_102_code, 2, (some .int), 2)
def pn_i103 : pn_I := (0, ⟨"NoThreeModel", "marks", "(III)V"⟩, prog_14_method_103_code, 7, none, 3)
def pn_i104 : pn_I := (0, ⟨"NoThreeModel", "markOf", "()I"⟩, prog_14_method_104_code, 1, (some .int), 0)
def pn_i105 : pn_I := (0, ⟨"NoThreeModel", "mark", "()I"⟩, prog_14_method_105_code, 1, (some .int), 0)
def pn_i106 : pn_I := (0, ⟨"NoThreeModel", "matches", "(II)I"⟩, prog_14_method_106_code, 7, (some .int), 2)
def pn_i107 : pn_I := (0, ⟨"NoThreeModel", "laysOther", "(I)V"⟩, prog_14_method_107_code, 3, none, 1)
def pn_i108 : pn_I := (0, ⟨"NoThreeModel", "selves", "()I"⟩, prog_14_method_108_code, 1, (some .int), 0)
def pn_i109 : pn_I := (0, ⟨"NoThreeModel", "alike", "(I)I"⟩, prog_14_method_109_code, 2, (some .int), 1)
def pn_i110 : pn_I := (0, ⟨"NoThreeModel", "becomes", "(II)V"⟩, prog_14_method_110_code, 5, none, 2)
def pn_i111 : pn_I := (0, ⟨"NoThreeModel", "isPlain", "(Z)Z"⟩, prog_14_method_111_code, 3, (some .boolean), 1)
def pn_i112 : pn_I := (0, ⟨"NoThreeModel", "unlike", "(IZ)I"⟩, prog_14_method_112_code, 5, (some .int), 2)
def pn_i113 : pn_I := (0, ⟨"NoThreeModel", "mostDoors", "(IZ)I"⟩, prog_14_method_113_code, 5, (some .int), 2)
def pn_i114 : pn_I := (0, ⟨"NoThreeModel", "laysThree", "()Z"⟩, prog_14_method_114_code, 4, (some .boolean), 0)
def pn_i115 : pn_I := (0, ⟨"NoThreeModel", "curesBy", "(IIII)Z"⟩, prog_14_method_115_code, 6, (some .boolean), 4)
def pn_i116 : pn_I := (0, ⟨"NoThreeModel", "canCure", "(II)Z"⟩, prog_14_method_116_code, 6, (some .boolean), 2)
def pn_i117 : pn_I := (0, ⟨"NoThreeModel", "cure", "(I)I"⟩, prog_14_method_117_code, 6, (some .int), 1)
def pn_i118 : pn_I := (0, ⟨"NoThreeModel", "takesDoor", "(II)Z"⟩, prog_14_method_118_code, 5, (some .boolean), 2)
def pn_i119 : pn_I := (0, ⟨"NoThreeModel", "payOf", "(II)I"⟩, prog_14_method_119_code, 4, (some .int), 2)
def pn_i120 : pn_I := (0, ⟨"NoThreeModel", "pay", "(II)I"⟩, prog_14_method_120_code, 3, (some .int), 2)
def pn_i121 : pn_I := (0, ⟨"NoThreeModel", "wantsWall", "(III)Z"⟩, prog_14_method_121_code, 7, (some .boolean), 3)
def pn_i122 : pn_I := (0, ⟨"NoThreeModel", "wantJoin", "(III)Z"⟩, prog_14_method_122_code, 8, (some .boolean), 3)
def pn_i123 : pn_I := (0, ⟨"NoThreeModel", "changes", "(IZ)Z"⟩, prog_14_method_123_code, 5, (some .boolean), 2)
def pn_i124 : pn_I := (0, ⟨"NoThreeModel", "atRest", "(I)I"⟩, prog_14_method_124_code, 2, (some .int), 1)
def pn_i125 : pn_I := (0, ⟨"NoThreeModel", "changing", "(II)I"⟩, prog_14_method_125_code, 6, (some .int), 2)
def pn_i126 : pn_I := (0, ⟨"NoThreeModel", "dearness", "()I"⟩, prog_14_method_126_code, 2, (some .int), 0)
def pn_i127 : pn_I := (0, ⟨"NoThreeModel", "cut", "(JI)J"⟩, prog_14_method_127_code, 3, (some .long), 2)
def pn_i128 : pn_I := (0, ⟨"NoThreeModel", "numbers", "(III)I"⟩, prog_14_method_128_code, 5, (some .int), 3)
def pn_i129 : pn_I := (0, ⟨"NoThreeModel", "write", "(IIJ)J"⟩, prog_14_method_129_code, 5, (some .long), 3)
def pn_i130 : pn_I := (0, ⟨"NoThreeModel", "copy", "(I)I"⟩, prog_14_method_130_code, 5, (some .int), 1)
def pn_i131 : pn_I := (0, ⟨"NoThreeModel", "image", "(I)I"⟩, prog_14_method_131_code, 3, (some .int), 1)
def pn_i132 : pn_I := (0, ⟨"NoThreeModel", "restore", "(I)I"⟩, prog_14_method_132_code, 3, (some .int), 1)
def pn_i133 : pn_I := (0, ⟨"NoThreeModel", "parts", "()I"⟩, prog_14_method_133_code, 4, (some .int), 0)
def pn_i134 : pn_I := (0, ⟨"NoThreeModel", "count", "(I)I"⟩, prog_14_method_134_code, 2, (some .int), 1)
def pn_i1001 : pn_I := (1, ⟨"NoThree$Annals", "<init>", "()V"⟩, prog_2_method_1_code, 1, none, 0)
def pn_i1002 : pn_I := (1, ⟨"NoThree$Annals", "become", "(LNoThree$Annals;)V"⟩, prog_2_method_2_code, 3, none, 1)
def pn_i1003 : pn_I := (1, ⟨"NoThree$Annals", "clear", "()V"⟩, prog_2_method_3_code, 1, none, 0)
def pn_i1004 : pn_I := (1, ⟨"NoThree$Annals", "remember", "()V"⟩, prog_2_method_4_code, 3, none, 0)
def pn_i1005 : pn_I := (1, ⟨"NoThree$Annals", "takeBack", "(I)V"⟩, prog_2_method_5_code, 5, none, 1)
def pn_i2001 : pn_I := (2, ⟨"NoThree$Council", "<init>", "()V"⟩, prog_3_method_1_code, 1, none, 0)
def pn_i2002 : pn_I := (2, ⟨"NoThree$Council", "convene", "(LNoThree$Rules;LNoThree$Town;)V"⟩, prog_3_method_2_code, 3, none, 2)
def pn_i2003 : pn_I := (2, ⟨"NoThree$Council", "holdingNow", "(I)I"⟩, prog_3_method_3_code, 2, (some .int), 1)
def pn_i2004 : pn_I := (2, ⟨"NoThree$Council", "survey", "()V"⟩, prog_3_method_4_code, 3, none, 0)
def pn_i2005 : pn_I := (2, ⟨"NoThree$Council", "reasonAgainstJoin", "(II)I"⟩, prog_3_method_5_code, 3, (some .int), 2)
def pn_i2006 : pn_I := (2, ⟨"NoThree$Council", "reasonAgainstEntry", "(I)I"⟩, prog_3_method_6_code, 2, (some .int), 1)
def pn_i2007 : pn_I := (2, ⟨"NoThree$Council", "suits", "(I)Z"⟩, prog_3_method_7_code, 3, (some .boolean), 1)
def pn_i2008 : pn_I := (2, ⟨"NoThree$Council", "keepsWhatHolds", "()Z"⟩, prog_3_method_8_code, 3, (some .boolean), 0)
def pn_i2009 : pn_I := (2, ⟨"NoThree$Council", "turnTo", "(LNoThree$Town;)V"⟩, prog_3_method_9_code, 2, none, 1)
def pn_i2010 : pn_I := (2, ⟨"NoThree$Council", "findMeanings", "(I)V"⟩, prog_3_method_10_code, 6, none, 1)
def pn_i2011 : pn_I := (2, ⟨"NoThree$Council", "ofHouse", "(II)I"⟩, prog_3_method_11_code, 3, (some .int), 2)
def pn_i2012 : pn_I := (2, ⟨"NoThree$Council", "meaning", "(II)I"⟩, prog_3_method_12_code, 4, (some .int), 2)
def pn_i2013 : pn_I := (2, ⟨"NoThree$Council", "standsFor", "(II)Z"⟩, prog_3_method_13_code, 7, (some .boolean), 2)
def pn_i2014 : pn_I := (2, ⟨"NoThree$Council", "worked", "(III)I"⟩, prog_3_method_14_code, 3, (some .int), 3)
def pn_i2015 : pn_I := (2, ⟨"NoThree$Council", "kept", "(J)I"⟩, prog_3_method_15_code, 2, (some .int), 1)
def pn_i3001 : pn_I := (3, ⟨"NoThree$Feasts", "<init>", "()V"⟩, prog_4_method_1_code, 1, none, 0)
def pn_i3002 : pn_I := (3, ⟨"NoThree$Feasts", "lay", "(LNoThree$Town;)V"⟩, prog_4_method_2_code, 5, none, 1)
def pn_i3003 : pn_I := (3, ⟨"NoThree$Feasts", "aroundOf", "(I)I"⟩, prog_4_method_3_code, 2, (some .int), 1)
def pn_i3004 : pn_I := (3, ⟨"NoThree$Feasts", "isFeast", "(I)Z"⟩, prog_4_method_4_code, 2, (some .boolean), 1)
def pn_i3005 : pn_I := (3, ⟨"NoThree$Feasts", "howMany", "()I"⟩, prog_4_method_5_code, 3, (some .int), 0)
def pn_i3006 : pn_I := (3, ⟨"NoThree$Feasts", "howManyFull", "()I"⟩, prog_4_method_6_code, 3, (some .int), 0)
def pn_i3007 : pn_I := (3, ⟨"NoThree$Feasts", "largest", "(I)I"⟩, prog_4_method_7_code, 5, (some .int), 1)
def pn_i3008 : pn_I := (3, ⟨"NoThree$Feasts", "mostGuests", "(LNoThree$Town;)I"⟩, prog_4_method_8_code, 1, (some .int), 1)
def pn_i3009 : pn_I := (3, ⟨"NoThree$Feasts", "mostOf", "(LNoThree$Town;II)I"⟩, prog_4_method_9_code, 9, (some .int), 3)
def pn_i4001 : pn_I := (4, ⟨"NoThree$Gossip", "<init>", "()V"⟩, prog_5_method_1_code, 1, none, 0)
def pn_i4002 : pn_I := (4, ⟨"NoThree$Gossip", "listen", "(LNoThree$Town;)V"⟩, prog_5_method_2_code, 5, none, 1)
def pn_i4003 : pn_I := (4, ⟨"NoThree$Gossip", "bestTeller", "()I"⟩, prog_5_method_3_code, 6, (some .int), 0)
def pn_i4004 : pn_I := (4, ⟨"NoThree$Gossip", "roundsFrom", "(I)I"⟩, prog_5_method_4_code, 3, (some .int), 1)
def pn_i4005 : pn_I := (4, ⟨"NoThree$Gossip", "canAllKnow", "(II)Z"⟩, prog_5_method_5_code, 3, (some .boolean), 2)
def pn_i4006 : pn_I := (4, ⟨"NoThree$Gossip", "mightAllKnow", "(II)Z"⟩, prog_5_method_6_code, 5, (some .boolean), 2)
def pn_i4007 : pn_I := (4, ⟨"NoThree$Gossip", "canTell", "(IIII)Z"⟩, prog_5_method_7_code, 6, (some .boolean), 4)
def pn_i4008 : pn_I := (4, ⟨"NoThree$Gossip", "isNext", "(III)Z"⟩, prog_5_method_8_code, 5, (some .boolean), 3)
def pn_i4009 : pn_I := (4, ⟨"NoThree$Gossip", "mostToldAtOnce", "(I)I"⟩, prog_5_method_9_code, 4, (some .int), 1)
def pn_i4010 : pn_I := (4, ⟨"NoThree$Gossip", "canBeToldToo", "(III)Z"⟩, prog_5_method_10_code, 7, (some .boolean), 3)
def pn_i5001 : pn_I := (5, ⟨"NoThree$Healer", "<init>", "()V"⟩, prog_6_method_1_code, 1, none, 0)
def pn_i5002 : pn_I := (5, ⟨"NoThree$Healer", "fewestWalls", "(LNoThree$Town;)I"⟩, prog_6_method_2_code, 3, (some .int), 1)
def pn_i5003 : pn_I := (5, ⟨"NoThree$Healer", "heal", "(IJ)V"⟩, prog_6_method_3_code, 8, none, 2)
def pn_i5004 : pn_I := (5, ⟨"NoThree$Healer", "healBy", "(IIIJ)V"⟩, prog_6_method_4_code, 6, none, 4)
def pn_i5005 : pn_I := (5, ⟨"NoThree$Healer", "bitOf", "(II)J"⟩, prog_6_method_5_code, 3, (some .long), 2)
def pn_i5006 : pn_I := (5, ⟨"NoThree$Healer", "wallAt", "(I)I"⟩, prog_6_method_6_code, 5, (some .int), 1)
def pn_i6001 : pn_I := (6, ⟨"NoThree$Kin", "<init>", "()V"⟩, prog_7_method_1_code, 1, none, 0)
def pn_i6002 : pn_I := (6, ⟨"NoThree$Kin", "leastNumber", "(LNoThree$Town;)I"⟩, prog_7_method_2_code, 2, (some .int), 1)
def pn_i6003 : pn_I := (6, ⟨"NoThree$Kin", "numberFrom", "(III)V"⟩, prog_7_method_3_code, 6, none, 3)
def pn_i6004 : pn_I := (6, ⟨"NoThree$Kin", "rowOf", "(II)I"⟩, prog_7_method_4_code, 5, (some .int), 2)
def pn_i6005 : pn_I := (6, ⟨"NoThree$Kin", "canBeMatched", "(LNoThree$Town;LNoThree$Town;)Z"⟩, prog_7_method_5_code, 3, (some .boolean), 2)
def pn_i6006 : pn_I := (6, ⟨"NoThree$Kin", "matchesToItself", "(LNoThree$Town;)I"⟩, prog_7_method_6_code, 6, (some .int), 1)
def pn_i6007 : pn_I := (6, ⟨"NoThree$Kin", "matchFrom", "(II)Z"⟩, prog_7_method_7_code, 4, (some .boolean), 2)
def pn_i6008 : pn_I := (6, ⟨"NoThree$Kin", "fits", "(II)Z"⟩, prog_7_method_8_code, 4, (some .boolean), 2)
def pn_i7001 : pn_I := (7, ⟨"NoThree$Market", "<init>", "()V"⟩, prog_8_method_1_code, 1, none, 0)
def pn_i7002 : pn_I := (7, ⟨"NoThree$Market", "visit", "(LNoThree$Town;)V"⟩, prog_8_method_2_code, 2, none, 1)
def pn_i7003 : pn_I := (7, ⟨"NoThree$Market", "worth", "(LNoThree$Town;I)I"⟩, prog_8_method_3_code, 3, (some .int), 2)
def pn_i7004 : pn_I := (7, ⟨"NoThree$Market", "nextChange", "(LNoThree$Rules;LNoThree$Council;I)I"⟩, prog_8_method_4_code, 6, (some .int), 3)
def pn_i7005 : pn_I := (7, ⟨"NoThree$Market", "leastCostOfRest", "(LNoThree$Rules;LNoThree$Council;)I"⟩, prog_8_method_5_code, 7, (some .int), 2)
def pn_i7006 : pn_I := (7, ⟨"NoThree$Market", "lossByWall", "(II)I"⟩, prog_8_method_6_code, 3, (some .int), 2)
def pn_i7007 : pn_I := (7, ⟨"NoThree$Market", "lureToJoin", "(II)I"⟩, prog_8_method_7_code, 5, (some .int), 2)
def pn_i8001 : pn_I := (8, ⟨"NoThree$Painter", "<init>", "()V"⟩, prog_9_method_1_code, 1, none, 0)
def pn_i8002 : pn_I := (8, ⟨"NoThree$Painter", "fewest", "(LNoThree$Town;I)I"⟩, prog_9_method_2_code, 4, (some .int), 2)
def pn_i8003 : pn_I := (8, ⟨"NoThree$Painter", "hardToPaint", "(II)I"⟩, prog_9_method_3_code, 7, (some .int), 2)
def pn_i8004 : pn_I := (8, ⟨"NoThree$Painter", "paintAll", "(IIII)Z"⟩, prog_9_method_4_code, 9, (some .boolean), 4)
def pn_i8005 : pn_I := (8, ⟨"NoThree$Painter", "mostBound", "(II)I"⟩, prog_9_method_5_code, 8, (some .int), 2)
def pn_i8006 : pn_I := (8, ⟨"NoThree$Painter", "firstShade", "(LNoThree$Town;I)I"⟩, prog_9_method_6_code, 5, (some .int), 2)
def pn_i8007 : pn_I := (8, ⟨"NoThree$Painter", "paintFrom", "(II)Z"⟩, prog_9_method_7_code, 5, (some .boolean), 2)
def pn_i8008 : pn_I := (8, ⟨"NoThree$Painter", "waysWith", "(LNoThree$Town;I)J"⟩, prog_9_method_8_code, 4, (some .long), 2)
def pn_i8009 : pn_I := (8, ⟨"NoThree$Painter", "waysOf", "(III)J"⟩, prog_9_method_9_code, 15, (some .long), 3)
def pn_i8010 : pn_I := (8, ⟨"NoThree$Painter", "sketched", "(II)I"⟩, prog_9_method_10_code, 4, (some .int), 2)
def pn_i8011 : pn_I := (8, ⟨"NoThree$Painter", "setSketch", "(III)V"⟩, prog_9_method_11_code, 5, none, 3)
def pn_i8012 : pn_I := (8, ⟨"NoThree$Painter", "leastLoose", "(II)I"⟩, prog_9_method_12_code, 7, (some .int), 2)
def pn_i8013 : pn_I := (8, ⟨"NoThree$Painter", "looseOf", "(II)I"⟩, prog_9_method_13_code, 6, (some .int), 2)
def pn_i8014 : pn_I := (8, ⟨"NoThree$Painter", "mergeAbove", "(III)V"⟩, prog_9_method_14_code, 7, none, 3)
def pn_i9001 : pn_I := (9, ⟨"NoThree$Reader", "<init>", "()V"⟩, prog_10_method_1_code, 1, none, 0)
def pn_i9002 : pn_I := (9, ⟨"NoThree$Reader", "hasRoomFor", "(I)Z"⟩, prog_10_method_2_code, 2, (some .boolean), 1)
def pn_i9003 : pn_I := (9, ⟨"NoThree$Reader", "append", "(I)V"⟩, prog_10_method_3_code, 3, none, 1)
def pn_i9004 : pn_I := (9, ⟨"NoThree$Reader", "read", "(I)V"⟩, prog_10_method_4_code, 4, none, 1)
def pn_i9005 : pn_I := (9, ⟨"NoThree$Reader", "findTokens", "()V"⟩, prog_10_method_5_code, 5, none, 0)
def pn_i9006 : pn_I := (9, ⟨"NoThree$Reader", "byteAt", "(I)I"⟩, prog_10_method_6_code, 2, (some .int), 1)
def pn_i9007 : pn_I := (9, ⟨"NoThree$Reader", "isBlank", "(I)Z"⟩, prog_10_method_7_code, 2, (some .boolean), 1)
def pn_i9008 : pn_I := (9, ⟨"NoThree$Reader", "isLetter", "(I)Z"⟩, prog_10_method_8_code, 2, (some .boolean), 1)
def pn_i9009 : pn_I := (9, ⟨"NoThree$Reader", "isDigit", "(I)Z"⟩, prog_10_method_9_code, 2, (some .boolean), 1)
def pn_i9010 : pn_I := (9, ⟨"NoThree$Reader", "endOfToken", "(I)I"⟩, prog_10_method_10_code, 3, (some .int), 1)
def pn_i9011 : pn_I := (9, ⟨"NoThree$Reader", "tokenOf", "(II)I"⟩, prog_10_method_11_code, 5, (some .int), 2)
def pn_i9012 : pn_I := (9, ⟨"NoThree$Reader", "wordOf", "(II)I"⟩, prog_10_method_12_code, 3, (some .int), 2)
def pn_i9013 : pn_I := (9, ⟨"NoThree$Reader", "ruleWordOf", "(II)I"⟩, prog_10_method_13_code, 3, (some .int), 2)
def pn_i9014 : pn_I := (9, ⟨"NoThree$Reader", "spells", "(Ljava/lang/String;II)Z"⟩, prog_10_method_14_code, 5, (some .boolean), 3)
def pn_i9015 : pn_I := (9, ⟨"NoThree$Reader", "advance", "()V"⟩, prog_10_method_15_code, 1, none, 0)
def pn_i9016 : pn_I := (9, ⟨"NoThree$Reader", "isNumber", "()Z"⟩, prog_10_method_16_code, 1, (some .boolean), 0)
def pn_i9017 : pn_I := (9, ⟨"NoThree$Reader", "isRuleWord", "()Z"⟩, prog_10_method_17_code, 1, (some .boolean), 0)
def pn_i9018 : pn_I := (9, ⟨"NoThree$Reader", "blame", "(I)Z"⟩, prog_10_method_18_code, 2, (some .boolean), 1)
def pn_i9019 : pn_I := (9, ⟨"NoThree$Reader", "pass", "(I)Z"⟩, prog_10_method_19_code, 2, (some .boolean), 1)
def pn_i9020 : pn_I := (9, ⟨"NoThree$Reader", "isHouseHere", "()Z"⟩, prog_10_method_20_code, 1, (some .boolean), 0)
def pn_i9021 : pn_I := (9, ⟨"NoThree$Reader", "readHouses", "()Z"⟩, prog_10_method_21_code, 3, (some .boolean), 0)
def pn_i9022 : pn_I := (9, ⟨"NoThree$Reader", "readDoor", "()Z"⟩, prog_10_method_22_code, 2, (some .boolean), 0)
def pn_i9023 : pn_I := (9, ⟨"NoThree$Reader", "readRing", "()Z"⟩, prog_10_method_23_code, 5, (some .boolean), 0)
def pn_i9024 : pn_I := (9, ⟨"NoThree$Reader", "readRule", "()Z"⟩, prog_10_method_24_code, 1, (some .boolean), 0)
def pn_i9025 : pn_I := (9, ⟨"NoThree$Reader", "readTruth", "(I)Z"⟩, prog_10_method_25_code, 3, (some .boolean), 1)
def pn_i9026 : pn_I := (9, ⟨"NoThree$Reader", "readBoth", "(I)Z"⟩, prog_10_method_26_code, 3, (some .boolean), 1)
def pn_i9027 : pn_I := (9, ⟨"NoThree$Reader", "readUnit", "(I)Z"⟩, prog_10_method_27_code, 3, (some .boolean), 1)
def pn_i9028 : pn_I := (9, ⟨"NoThree$Reader", "readComparison", "(I)Z"⟩, prog_10_method_28_code, 3, (some .boolean), 1)
def pn_i9029 : pn_I := (9, ⟨"NoThree$Reader", "comparisonOf", "(I)I"⟩, prog_10_method_29_code, 1, (some .int), 1)
def pn_i9030 : pn_I := (9, ⟨"NoThree$Reader", "readSum", "(I)Z"⟩, prog_10_method_30_code, 4, (some .boolean), 1)
def pn_i9031 : pn_I := (9, ⟨"NoThree$Reader", "readTerm", "(I)Z"⟩, prog_10_method_31_code, 3, (some .boolean), 1)
def pn_i9032 : pn_I := (9, ⟨"NoThree$Reader", "readAtom", "(I)Z"⟩, prog_10_method_32_code, 2, (some .boolean), 1)
def pn_i10001 : pn_I := (10, ⟨"NoThree$Rules", "<init>", "()V"⟩, prog_11_method_1_code, 1, none, 0)
def pn_i10002 : pn_I := (10, ⟨"NoThree$Rules", "clear", "()V"⟩, prog_11_method_2_code, 1, none, 0)
def pn_i10003 : pn_I := (10, ⟨"NoThree$Rules", "become", "(LNoThree$Rules;)V"⟩, prog_11_method_3_code, 3, none, 1)
def pn_i10004 : pn_I := (10, ⟨"NoThree$Rules", "add", "(I)V"⟩, prog_11_method_4_code, 2, none, 1)
def pn_i10005 : pn_I := (10, ⟨"NoThree$Rules", "close", "()V"⟩, prog_11_method_5_code, 1, none, 0)
def pn_i11001 : pn_I := (11, ⟨"NoThree$Town", "<init>", "()V"⟩, prog_12_method_1_code, 1, none, 0)
def pn_i11002 : pn_I := (11, ⟨"NoThree$Town", "has", "(I)Z"⟩, prog_12_method_2_code, 2, (some .boolean), 1)
def pn_i11003 : pn_I := (11, ⟨"NoThree$Town", "isPair", "(II)Z"⟩, prog_12_method_3_code, 3, (some .boolean), 2)
def pn_i11004 : pn_I := (11, ⟨"NoThree$Town", "all", "()I"⟩, prog_12_method_4_code, 1, (some .int), 0)
def pn_i11005 : pn_I := (11, ⟨"NoThree$Town", "neighbours", "(I)I"⟩, prog_12_method_5_code, 2, (some .int), 1)
def pn_i11006 : pn_I := (11, ⟨"NoThree$Town", "linked", "(II)Z"⟩, prog_12_method_6_code, 3, (some .boolean), 2)
def pn_i11007 : pn_I := (11, ⟨"NoThree$Town", "become", "(LNoThree$Town;)V"⟩, prog_12_method_7_code, 3, none, 1)
def pn_i11008 : pn_I := (11, ⟨"NoThree$Town", "clear", "()V"⟩, prog_12_method_8_code, 1, none, 0)
def pn_i11009 : pn_I := (11, ⟨"NoThree$Town", "link", "(II)V"⟩, prog_12_method_9_code, 3, none, 2)
def pn_i11010 : pn_I := (11, ⟨"NoThree$Town", "part", "(II)V"⟩, prog_12_method_10_code, 3, none, 2)
def pn_i11011 : pn_I := (11, ⟨"NoThree$Town", "addHouse", "(I)V"⟩, prog_12_method_11_code, 4, none, 1)
def pn_i11012 : pn_I := (11, ⟨"NoThree$Town", "drop", "(I)V"⟩, prog_12_method_12_code, 4, none, 1)
def pn_i11013 : pn_I := (11, ⟨"NoThree$Town", "twinAll", "()V"⟩, prog_12_method_13_code, 4, none, 0)
def pn_i11014 : pn_I := (11, ⟨"NoThree$Town", "doorsOf", "(I)I"⟩, prog_12_method_14_code, 2, (some .int), 1)
def pn_i11015 : pn_I := (11, ⟨"NoThree$Town", "doors", "()I"⟩, prog_12_method_15_code, 3, (some .int), 0)
def pn_i11016 : pn_I := (11, ⟨"NoThree$Town", "around", "(I)I"⟩, prog_12_method_16_code, 4, (some .int), 1)
def pn_i11017 : pn_I := (11, ⟨"NoThree$Town", "within", "(II)I"⟩, prog_12_method_17_code, 5, (some .int), 2)
def pn_i11018 : pn_I := (11, ⟨"NoThree$Town", "twoStepsFrom", "(I)I"⟩, prog_12_method_18_code, 2, (some .int), 1)
def pn_i11019 : pn_I := (11, ⟨"NoThree$Town", "farthest", "(I)I"⟩, prog_12_method_19_code, 6, (some .int), 1)
def pn_i11020 : pn_I := (11, ⟨"NoThree$Town", "stepsBetween", "(II)I"⟩, prog_12_method_20_code, 7, (some .int), 2)
def pn_i11021 : pn_I := (11, ⟨"NoThree$Town", "parts", "()I"⟩, prog_12_method_21_code, 4, (some .int), 0)
def pn_i11022 : pn_I := (11, ⟨"NoThree$Town", "threesWith", "(I)I"⟩, prog_12_method_22_code, 4, (some .int), 1)
def pn_i11023 : pn_I := (11, ⟨"NoThree$Town", "threes", "()I"⟩, prog_12_method_23_code, 4, (some .int), 0)
def pn_i11024 : pn_I := (11, ⟨"NoThree$Town", "threeAt", "(I)I"⟩, prog_12_method_24_code, 7, (some .int), 1)
def pn_i11025 : pn_I := (11, ⟨"NoThree$Town", "commonAbove", "(II)I"⟩, prog_12_method_25_code, 3, (some .int), 2)
def pn_i11026 : pn_I := (11, ⟨"NoThree$Town", "roundsBy", "(I)I"⟩, prog_12_method_26_code, 2, (some .int), 1)
def pn_i11027 : pn_I := (11, ⟨"NoThree$Town", "foursWith", "(I)I"⟩, prog_12_method_27_code, 4, (some .int), 1)
def pn_i11028 : pn_I := (11, ⟨"NoThree$Town", "roundsOfFour", "()I"⟩, prog_12_method_28_code, 4, (some .int), 0)
def pn_i11029 : pn_I := (11, ⟨"NoThree$Town", "leastOddRing", "()I"⟩, prog_12_method_29_code, 4, (some .int), 0)
def pn_i11030 : pn_I := (11, ⟨"NoThree$Town", "leastOddWalk", "(I)I"⟩, prog_12_method_30_code, 7, (some .int), 1)
def pn_i11031 : pn_I := (11, ⟨"NoThree$Town", "firstHalf", "(I)I"⟩, prog_12_method_31_code, 9, (some .int), 1)
def pn_i11032 : pn_I := (11, ⟨"NoThree$Town", "strangeThrees", "()I"⟩, prog_12_method_32_code, 4, (some .int), 0)
def pn_i11033 : pn_I := (11, ⟨"NoThree$Town", "calmestSix", "()I"⟩, prog_12_method_33_code, 5, (some .int), 0)
def pn_i11034 : pn_I := (11, ⟨"NoThree$Town", "meetingsInSix", "(I)I"⟩, prog_12_method_34_code, 5, (some .int), 1)
def pn_i12001 : pn_I := (12, ⟨"NoThree", "<init>", "()V"⟩, prog_1_method_1_code, 2, none, 0)
def pn_i12002 : pn_I := (12, ⟨"NoThree", "feed", "(IIIII)I"⟩, prog_1_method_2_code, 6, (some .int), 5)
def pn_i12003 : pn_I := (12, ⟨"NoThree", "town", "(I)I"⟩, prog_1_method_3_code, 2, (some .int), 1)
def pn_i12004 : pn_I := (12, ⟨"NoThree", "fault", "(I)I"⟩, prog_1_method_4_code, 2, (some .int), 1)
def pn_i12005 : pn_I := (12, ⟨"NoThree", "house", "(II)I"⟩, prog_1_method_5_code, 3, (some .int), 2)
def pn_i12006 : pn_I := (12, ⟨"NoThree", "steps", "(II)I"⟩, prog_1_method_6_code, 3, (some .int), 2)
def pn_i12007 : pn_I := (12, ⟨"NoThree", "holds", "(II)I"⟩, prog_1_method_7_code, 3, (some .int), 2)
def pn_i12008 : pn_I := (12, ⟨"NoThree", "broken", "(I)I"⟩, prog_1_method_8_code, 4, (some .int), 1)
def pn_i12009 : pn_I := (12, ⟨"NoThree", "breaches", "()I"⟩, prog_1_method_9_code, 3, (some .int), 0)
def pn_i12010 : pn_I := (12, ⟨"NoThree", "why", "(II)I"⟩, prog_1_method_10_code, 3, (some .int), 2)
def pn_i12011 : pn_I := (12, ⟨"NoThree", "join", "(II)I"⟩, prog_1_method_11_code, 4, (some .int), 2)
def pn_i12012 : pn_I := (12, ⟨"NoThree", "wall", "(II)I"⟩, prog_1_method_12_code, 4, (some .int), 2)
def pn_i12013 : pn_I := (12, ⟨"NoThree", "may", "(I)I"⟩, prog_1_method_13_code, 4, (some .int), 1)
def pn_i12014 : pn_I := (12, ⟨"NoThree", "enter", "(I)I"⟩, prog_1_method_14_code, 3, (some .int), 1)
def pn_i12015 : pn_I := (12, ⟨"NoThree", "leave", "(I)I"⟩, prog_1_method_15_code, 2, (some .int), 1)
def pn_i12016 : pn_I := (12, ⟨"NoThree", "weave", "()I"⟩, prog_1_method_16_code, 1, (some .int), 0)
def pn_i12017 : pn_I := (12, ⟨"NoThree", "undo", "(I)I"⟩, prog_1_method_17_code, 2, (some .int), 1)
def pn_i12018 : pn_I := (12, ⟨"NoThree", "judge", "(II)I"⟩, prog_1_method_18_code, 8, (some .int), 2)
def pn_i12019 : pn_I := (12, ⟨"NoThree", "perform", "(I)I"⟩, prog_1_method_19_code, 6, (some .int), 1)
def pn_i12020 : pn_I := (12, ⟨"NoThree", "grow", "(I)I"⟩, prog_1_method_20_code, 5, (some .int), 1)
def pn_i12021 : pn_I := (12, ⟨"NoThree", "century", "(II)I"⟩, prog_1_method_21_code, 11, (some .int), 2)
def pn_i12022 : pn_I := (12, ⟨"NoThree", "three", "(I)I"⟩, prog_1_method_22_code, 2, (some .int), 1)
def pn_i12023 : pn_I := (12, ⟨"NoThree", "fours", "()I"⟩, prog_1_method_23_code, 1, (some .int), 0)
def pn_i12024 : pn_I := (12, ⟨"NoThree", "scandal", "()I"⟩, prog_1_method_24_code, 1, (some .int), 0)
def pn_i12025 : pn_I := (12, ⟨"NoThree", "halves", "()I"⟩, prog_1_method_25_code, 1, (some .int), 0)
def pn_i12026 : pn_I := (12, ⟨"NoThree", "strangers", "()I"⟩, prog_1_method_26_code, 1, (some .int), 0)
def pn_i12027 : pn_I := (12, ⟨"NoThree", "six", "(I)I"⟩, prog_1_method_27_code, 3, (some .int), 1)
def pn_i12028 : pn_I := (12, ⟨"NoThree", "feasts", "()I"⟩, prog_1_method_28_code, 1, (some .int), 0)
def pn_i12029 : pn_I := (12, ⟨"NoThree", "full", "()I"⟩, prog_1_method_29_code, 1, (some .int), 0)
def pn_i12030 : pn_I := (12, ⟨"NoThree", "feast", "(I)I"⟩, prog_1_method_30_code, 2, (some .int), 1)
def pn_i12031 : pn_I := (12, ⟨"NoThree", "colours", "()I"⟩, prog_1_method_31_code, 1, (some .int), 0)
def pn_i12032 : pn_I := (12, ⟨"NoThree", "colour", "(I)I"⟩, prog_1_method_32_code, 2, (some .int), 1)
def pn_i12033 : pn_I := (12, ⟨"NoThree", "ways", "(I)J"⟩, prog_1_method_33_code, 2, (some .long), 1)
def pn_i12034 : pn_I := (12, ⟨"NoThree", "dear", "()I"⟩, prog_1_method_34_code, 4, (some .int), 0)
def pn_i12035 : pn_I := (12, ⟨"NoThree", "telling", "(I)I"⟩, prog_1_method_35_code, 2, (some .int), 1)
def pn_i12036 : pn_I := (12, ⟨"NoThree", "teller", "()I"⟩, prog_1_method_36_code, 1, (some .int), 0)
def pn_i12037 : pn_I := (12, ⟨"NoThree", "safe", "(II)I"⟩, prog_1_method_37_code, 3, (some .int), 2)
def pn_i12038 : pn_I := (12, ⟨"NoThree", "wide", "(I)I"⟩, prog_1_method_38_code, 7, (some .int), 1)
def pn_i12039 : pn_I := (12, ⟨"NoThree", "mark", "()I"⟩, prog_1_method_39_code, 1, (some .int), 0)
def pn_i12040 : pn_I := (12, ⟨"NoThree", "selves", "()I"⟩, prog_1_method_40_code, 1, (some .int), 0)
def pn_i12041 : pn_I := (12, ⟨"NoThree", "alike", "(I)I"⟩, prog_1_method_41_code, 3, (some .int), 1)
def pn_i12042 : pn_I := (12, ⟨"NoThree", "unlike", "(IZ)I"⟩, prog_1_method_42_code, 3, (some .int), 2)
def pn_i12043 : pn_I := (12, ⟨"NoThree", "mostDoors", "(IZ)I"⟩, prog_1_method_43_code, 3, (some .int), 2)
def pn_i12044 : pn_I := (12, ⟨"NoThree", "cure", "(I)I"⟩, prog_1_method_44_code, 3, (some .int), 1)
def pn_i12045 : pn_I := (12, ⟨"NoThree", "pay", "(II)I"⟩, prog_1_method_45_code, 3, (some .int), 2)
def pn_i12046 : pn_I := (12, ⟨"NoThree", "atRest", "(I)I"⟩, prog_1_method_46_code, 2, (some .int), 1)
def pn_i12047 : pn_I := (12, ⟨"NoThree", "changing", "(II)I"⟩, prog_1_method_47_code, 6, (some .int), 2)
def pn_i12048 : pn_I := (12, ⟨"NoThree", "dearness", "()I"⟩, prog_1_method_48_code, 1, (some .int), 0)
def pn_i12049 : pn_I := (12, ⟨"NoThree", "numbers", "(III)I"⟩, prog_1_method_49_code, 5, (some .int), 3)
def pn_i12050 : pn_I := (12, ⟨"NoThree", "write", "(IIJ)J"⟩, prog_1_method_50_code, 5, (some .long), 3)
def pn_i12051 : pn_I := (12, ⟨"NoThree", "copy", "(I)I"⟩, prog_1_method_51_code, 5, (some .int), 1)
def pn_i12052 : pn_I := (12, ⟨"NoThree", "image", "(I)I"⟩, prog_1_method_52_code, 2, (some .int), 1)
def pn_i12053 : pn_I := (12, ⟨"NoThree", "restore", "(I)I"⟩, prog_1_method_53_code, 2, (some .int), 1)
def pn_i12054 : pn_I := (12, ⟨"NoThree", "count", "(I)I"⟩, prog_1_method_54_code, 2, (some .int), 1)
def pn_i12055 : pn_I := (12, ⟨"NoThree", "isRow", "(I)Z"⟩, prog_1_method_55_code, 1, (some .boolean), 1)
def pn_i12056 : pn_I := (12, ⟨"NoThree", "isImage", "(I)Z"⟩, prog_1_method_56_code, 1, (some .boolean), 1)
def pn_i12057 : pn_I := (12, ⟨"NoThree", "isCost", "(I)Z"⟩, prog_1_method_57_code, 1, (some .boolean), 1)
def pn_i12058 : pn_I := (12, ⟨"NoThree", "nextDraw", "(I)I"⟩, prog_1_method_58_code, 1, (some .int), 1)
def pn_i12059 : pn_I := (12, ⟨"NoThree", "convene", "(LNoThree$Town;)V"⟩, prog_1_method_59_code, 2, none, 1)
def pn_i12060 : pn_I := (12, ⟨"NoThree", "settle", "(I)V"⟩, prog_1_method_60_code, 2, none, 1)
def pn_i12061 : pn_I := (12, ⟨"NoThree", "reasonAgainstWall", "(II)I"⟩, prog_1_method_61_code, 3, (some .int), 2)
def pn_i12062 : pn_I := (12, ⟨"NoThree", "nextToGrowBy", "()I"⟩, prog_1_method_62_code, 4, (some .int), 0)
def pn_i12063 : pn_I := (12, ⟨"NoThree", "reasonAgainstAct", "(LNoThree$Town;J)I"⟩, prog_1_method_63_code, 6, (some .int), 2)
def pn_i12064 : pn_I := (12, ⟨"NoThree", "turnDoor", "(LNoThree$Town;J)V"⟩, prog_1_method_64_code, 5, none, 2)
def pn_i12065 : pn_I := (12, ⟨"NoThree", "numberAt", "(II)J"⟩, prog_1_method_65_code, 4, (some .long), 2)
def pn_i12066 : pn_I := (12, ⟨"NoThree", "putNumber", "(IIJ)V"⟩, prog_1_method_66_code, 6, none, 3)
def pn_i12067 : pn_I := (12, ⟨"NoThree", "cutTo", "(IJ)J"⟩, prog_1_method_67_code, 3, (some .long), 2)
def pn_i20000 : pn_I := (20, ⟨"java/lang/Math", "max", "(II)I"⟩, prog_17_method_65_code, 2, (some .int), 2)
def pn_i20001 : pn_I := (20, ⟨"java/lang/Math", "min", "(II)I"⟩, prog_17_method_69_code, 2, (some .int), 2)
def pn_i20002 : pn_I := (20, ⟨"java/lang/Math", "min", "(JJ)J"⟩, prog_17_method_70_code, 4, (some .long), 2)
def pn_i20003 : pn_I := (20, ⟨"java/lang/Math", "max", "(JJ)J"⟩, prog_17_method_66_code, 4, (some .long), 2)
def pn_i21000 : pn_I := (21, ⟨"java/lang/Integer", "bitCount", "(I)I"⟩, prog_16_method_49_code, 1, (some .int), 1)
def pn_i22000 : pn_I := (22, ⟨"java/util/Arrays", "fill", "([II)V"⟩, prog_21_method_103_code, 4, none, 2)
def pn_i23000 : pn_I := (23, ⟨"java/lang/String", "length", "()I"⟩, prog_18_method_54_code, 1, (some .int), 0)
def pn_i23001 : pn_I := (23, ⟨"java/lang/String", "coder", "()B"⟩, prog_18_method_152_code, 1, (some .byte), 0)
def pn_i23002 : pn_I := (23, ⟨"java/lang/String", "charAt", "(I)C"⟩, prog_18_method_56_code, 2, (some .char), 1)
def pn_i23003 : pn_I := (23, ⟨"java/lang/String", "isLatin1", "()Z"⟩, prog_18_method_154_code, 1, (some .boolean), 0)
def pn_i23004 : pn_I := (23, ⟨"java/lang/String", "checkIndex", "(II)V"⟩, prog_18_method_155_code, 2, none, 2)
def pn_i23005 : pn_I := (23, ⟨"java/lang/String", "indexOf", "(I)I"⟩, prog_18_method_79_code, 2, (some .int), 1)
def pn_i23006 : pn_I := (23, ⟨"java/lang/String", "indexOf", "(II)I"⟩, prog_18_method_80_code, 3, (some .int), 2)
def pn_i23007 : pn_I := (23, ⟨"java/lang/String", "checkBoundsBeginEnd", "(III)V"⟩, prog_18_method_158_code, 3, none, 3)
def pn_i24000 : pn_I := (24, ⟨"java/lang/StringLatin1", "charAt", "([BI)C"⟩, prog_19_method_2_code, 2, (some .char), 2)
def pn_i24001 : pn_I := (24, ⟨"java/lang/StringLatin1", "indexOf", "([BIII)I"⟩, prog_19_method_22_code, 4, (some .int), 4)
def pn_i24002 : pn_I := (24, ⟨"java/lang/StringLatin1", "canEncode", "(I)Z"⟩, prog_19_method_4_code, 1, (some .boolean), 1)
def pn_i24003 : pn_I := (24, ⟨"java/lang/StringLatin1", "indexOfChar", "([BIII)I"⟩, prog_19_method_23_code, 6, (some .int), 4)
def pn_i25000 : pn_I := (25, ⟨"jdk/internal/util/Preconditions", "checkIndex", "(IILjava/util/function/BiFunction;)I"⟩, prog_22_method_11_code, 3, (some .int), 3)
def pn_i25001 : pn_I := (25, ⟨"jdk/internal/util/Preconditions", "checkFromToIndex", "(IIILjava/util/function/BiFunction;)I"⟩, prog_22_method_12_code, 4, (some .int), 4)
def pn_is0 : List pn_I := [pn_i2, pn_i2, pn_i2, pn_i3, pn_i4, pn_i5, pn_i6, pn_i7, pn_i8, pn_i9, pn_i10, pn_i11, pn_i12, pn_i13, pn_i14, pn_i15, pn_i16, pn_i17, pn_i18, pn_i19, pn_i20, pn_i21, pn_i22, pn_i23, pn_i24, pn_i25, pn_i26, pn_i27, pn_i28, pn_i29, pn_i30, pn_i31, pn_i32, pn_i33, pn_i34, pn_i35, pn_i36, pn_i37, pn_i38, pn_i39, pn_i40, pn_i41, pn_i42, pn_i43, pn_i44, pn_i45, pn_i46, pn_i47, pn_i48, pn_i49, pn_i50, pn_i51, pn_i52, pn_i53, pn_i54, pn_i55, pn_i56, pn_i57, pn_i58, pn_i59, pn_i60, pn_i61, pn_i62, pn_i63, pn_i64, pn_i65, pn_i66, pn_i67, pn_i68, pn_i69, pn_i70, pn_i71, pn_i72, pn_i73, pn_i74, pn_i75, pn_i76, pn_i77, pn_i78, pn_i79, pn_i80, pn_i81, pn_i82, pn_i83, pn_i84, pn_i85, pn_i86, pn_i87, pn_i88, pn_i89, pn_i90, pn_i91, pn_i92, pn_i93, pn_i94, pn_i95, pn_i96, pn_i97, pn_i98, pn_i99, pn_i100, pn_i101, pn_i102, pn_i103, pn_i104, pn_i105, pn_i106, pn_i107, pn_i108, pn_i109, pn_i110, pn_i111, pn_i112, pn_i113, pn_i114, pn_i115, pn_i116, pn_i117, pn_i118, pn_i119, pn_i120, pn_i121, pn_i122, pn_i123, pn_i124, pn_i125, pn_i126, pn_i127, pn_i128, pn_i129, pn_i130, pn_i131, pn_i132, pn_i133, pn_i134]
def pn_is1 : List pn_I := [pn_i2, pn_i1001, pn_i1002, pn_i1003, pn_i1004, pn_i1005]
def pn_is2 : List pn_I := [pn_i2, pn_i2001, pn_i2002, pn_i2003, pn_i2004, pn_i2005, pn_i2006, pn_i2007, pn_i2008, pn_i2009, pn_i2010, pn_i2011, pn_i2012, pn_i2013, pn_i2014, pn_i2015]
def pn_is3 : List pn_I := [pn_i2, pn_i3001, pn_i3002, pn_i3003, pn_i3004, pn_i3005, pn_i3006, pn_i3007, pn_i3008, pn_i3009]
def pn_is4 : List pn_I := [pn_i2, pn_i4001, pn_i4002, pn_i4003, pn_i4004, pn_i4005, pn_i4006, pn_i4007, pn_i4008, pn_i4009, pn_i4010]
def pn_is5 : List pn_I := [pn_i2, pn_i5001, pn_i5002, pn_i5003, pn_i5004, pn_i5005, pn_i5006]
def pn_is6 : List pn_I := [pn_i2, pn_i6001, pn_i6002, pn_i6003, pn_i6004, pn_i6005, pn_i6006, pn_i6007, pn_i6008]
def pn_is7 : List pn_I := [pn_i2, pn_i7001, pn_i7002, pn_i7003, pn_i7004, pn_i7005, pn_i7006, pn_i7007]
def pn_is8 : List pn_I := [pn_i2, pn_i8001, pn_i8002, pn_i8003, pn_i8004, pn_i8005, pn_i8006, pn_i8007, pn_i8008, pn_i8009, pn_i8010, pn_i8011, pn_i8012, pn_i8013, pn_i8014]
def pn_is9 : List pn_I := [pn_i2, pn_i9001, pn_i9002, pn_i9003, pn_i9004, pn_i9005, pn_i9006, pn_i9007, pn_i9008, pn_i9009, pn_i9010, pn_i9011, pn_i9012, pn_i9013, pn_i9014, pn_i9015, pn_i9016, pn_i9017, pn_i9018, pn_i9019, pn_i9020, pn_i9021, pn_i9022, pn_i9023, pn_i9024, pn_i9025, pn_i9026, pn_i9027, pn_i9028, pn_i9029, pn_i9030, pn_i9031, pn_i9032]
def pn_is10 : List pn_I := [pn_i2, pn_i10001, pn_i10002, pn_i10003, pn_i10004, pn_i10005]
def pn_is11 : List pn_I := [pn_i2, pn_i11001, pn_i11002, pn_i11003, pn_i11004, pn_i11005, pn_i11006, pn_i11007, pn_i11008, pn_i11009, pn_i11010, pn_i11011, pn_i11012, pn_i11013, pn_i11014, pn_i11015, pn_i11016, pn_i11017, pn_i11018, pn_i11019, pn_i11020, pn_i11021, pn_i11022, pn_i11023, pn_i11024, pn_i11025, pn_i11026, pn_i11027, pn_i11028, pn_i11029, pn_i11030, pn_i11031, pn_i11032, pn_i11033, pn_i11034]
def pn_is12 : List pn_I := [pn_i2, pn_i12001, pn_i12002, pn_i12003, pn_i12004, pn_i12005, pn_i12006, pn_i12007, pn_i12008, pn_i12009, pn_i12010, pn_i12011, pn_i12012, pn_i12013, pn_i12014, pn_i12015, pn_i12016, pn_i12017, pn_i12018, pn_i12019, pn_i12020, pn_i12021, pn_i12022, pn_i12023, pn_i12024, pn_i12025, pn_i12026, pn_i12027, pn_i12028, pn_i12029, pn_i12030, pn_i12031, pn_i12032, pn_i12033, pn_i12034, pn_i12035, pn_i12036, pn_i12037, pn_i12038, pn_i12039, pn_i12040, pn_i12041, pn_i12042, pn_i12043, pn_i12044, pn_i12045, pn_i12046, pn_i12047, pn_i12048, pn_i12049, pn_i12050, pn_i12051, pn_i12052, pn_i12053, pn_i12054, pn_i12055, pn_i12056, pn_i12057, pn_i12058, pn_i12059, pn_i12060, pn_i12061, pn_i12062, pn_i12063, pn_i12064, pn_i12065, pn_i12066, pn_i12067]
def pn_is20 : List pn_I := [pn_i20000, pn_i20001, pn_i20002, pn_i20003]
def pn_is21 : List pn_I := [pn_i21000]
def pn_is22 : List pn_I := [pn_i22000]
def pn_is23 : List pn_I := [pn_i23000, pn_i23001, pn_i23002, pn_i23003, pn_i23004, pn_i23005, pn_i23006, pn_i23007]
def pn_is24 : List pn_I := [pn_i24000, pn_i24001, pn_i24002, pn_i24003]
def pn_is25 : List pn_I := [pn_i25000, pn_i25001]
def pn_is : Nat → List pn_I := fun k => match k with
  | 0 => pn_is0
  | 1 => pn_is1
  | 2 => pn_is2
  | 3 => pn_is3
  | 4 => pn_is4
  | 5 => pn_is5
  | 6 => pn_is6
  | 7 => pn_is7
  | 8 => pn_is8
  | 9 => pn_is9
  | 10 => pn_is10
  | 11 => pn_is11
  | 12 => pn_is12
  | 20 => pn_is20
  | 21 => pn_is21
  | 22 => pn_is22
  | 23 => pn_is23
  | 24 => pn_is24
  | 25 => pn_is25
  | _ => []
/-- a method by its key -/
def pn_i (k : Nat) : pn_I := (pn_is (k / 1000)).getD (k % 1000) pn_i2
def pn_tt : Nat → List Cond := fun k => match k with
  | 0 => k2_sels lw_privs
  | 1 => tables_1_1
  | 2 => tables_1_2
  | 3 => tables_1_3
  | 4 => tables_1_4
  | 5 => tables_1_5
  | 6 => tables_1_6
  | 7 => tables_1_7
  | 8 => tables_1_8
  | 9 => tables_1_9
  | _ => []
theorem pn_tt_in : ∀ (j : Nat) (w : Cond), w ∈ pn_tt j → w ∈ lw_tbl := by
  intro j w h
  match j, h with
  | 0, h => exact List.mem_append_left _ h
  | 1, h => exact List.mem_append_right _ (by unfold tables_1; simp only [List.mem_append]; simp [show w ∈ tables_1_1 from h])
  | 2, h => exact List.mem_append_right _ (by unfold tables_1; simp only [List.mem_append]; simp [show w ∈ tables_1_2 from h])
  | 3, h => exact List.mem_append_right _ (by unfold tables_1; simp only [List.mem_append]; simp [show w ∈ tables_1_3 from h])
  | 4, h => exact List.mem_append_right _ (by unfold tables_1; simp only [List.mem_append]; simp [show w ∈ tables_1_4 from h])
  | 5, h => exact List.mem_append_right _ (by unfold tables_1; simp only [List.mem_append]; simp [show w ∈ tables_1_5 from h])
  | 6, h => exact List.mem_append_right _ (by unfold tables_1; simp only [List.mem_append]; simp [show w ∈ tables_1_6 from h])
  | 7, h => exact List.mem_append_right _ (by unfold tables_1; simp only [List.mem_append]; simp [show w ∈ tables_1_7 from h])
  | 8, h => exact List.mem_append_right _ (by unfold tables_1; simp only [List.mem_append]; simp [show w ∈ tables_1_8 from h])
  | 9, h => exact List.mem_append_right _ (by unfold tables_1; simp only [List.mem_append]; simp [show w ∈ tables_1_9 from h])
  | n + 10, h => simp [pn_tt] at h
/-- the word at a place -/
def pn_at (p : Nat) : Option Cond := (pn_tt (p / 1000))[p % 1000]?
theorem pn_at_in {p : Nat} {w : Cond} (h : pn_at p = some w) : w ∈ lw_tbl := pn_tt_in _ w (List.mem_of_getElem? h)
/-- links: place in lw_tbl, class, entry, the field's class, its slot -/
def pn_FL : List (Nat × Nat × Nat × Nat × Nat) := [(1042, 11, 9, 11, 0), (1043, 3, 24, 11, 0), (1044, 4, 46, 11, 0), (1045, 6, 33, 11, 0), (1046, 8, 46, 11, 0), (1047, 7, 37, 11, 0), (1048, 2, 73, 11, 0), (1049, 1, 53, 11, 0), (1050, 5, 57, 11, 0), (1051, 12, 177, 11, 0), (1052, 9, 177, 11, 0), (1053, 11, 15, 11, 1), (1054, 3, 27, 11, 1), (1055, 4, 49, 11, 1), (1056, 8, 50, 11, 1), (1057, 1, 50, 11, 1), (1070, 10, 9, 10, 0), (1071, 2, 63, 10, 0), (1072, 12, 165, 10, 0), (1073, 9, 198, 10, 0), (1074, 10, 15, 10, 1), (1075, 2, 147, 10, 1), (1076, 10, 19, 10, 2), (1077, 2, 66, 10, 2), (1078, 10, 22, 10, 3), (1079, 2, 158, 10, 3), (1080, 10, 25, 10, 4), (1092, 1, 12, 1, 0), (1093, 12, 129, 1, 0), (1094, 9, 168, 1, 0), (1095, 1, 21, 1, 1), (1096, 12, 161, 1, 1), (1097, 9, 194, 1, 1), (1098, 1, 25, 1, 2), (1099, 12, 123, 1, 2), (1100, 9, 83, 1, 2), (1101, 1, 29, 1, 3), (1102, 12, 217, 1, 3), (1103, 1, 32, 1, 4), (1104, 1, 35, 1, 5), (1127, 9, 9, 9, 0), (1128, 12, 106, 9, 0), (1129, 9, 15, 9, 1), (1130, 12, 113, 9, 1), (1131, 9, 18, 9, 2), (1132, 12, 126, 9, 2), (1133, 9, 24, 9, 3), (1134, 12, 116, 9, 3), (1135, 9, 28, 9, 4), (1136, 9, 32, 9, 5), (1137, 9, 36, 9, 6), (1138, 9, 39, 9, 7), (1139, 9, 42, 9, 8), (1140, 9, 45, 9, 9), (1170, 3, 9, 3, 0), (1171, 3, 15, 3, 1), (1185, 8, 9, 8, 0), (1186, 8, 15, 8, 1), (1187, 8, 21, 8, 2), (1205, 4, 12, 4, 0), (1206, 4, 18, 4, 1), (1207, 4, 22, 4, 2), (1208, 4, 28, 4, 3), (1209, 4, 32, 4, 4), (1229, 6, 9, 6, 0), (1230, 6, 18, 6, 1), (1231, 6, 22, 6, 2), (1232, 6, 25, 6, 3), (2011, 5, 12, 5, 0), (2012, 5, 20, 5, 1), (2030, 2, 12, 2, 0), (2031, 2, 21, 2, 1), (2032, 2, 25, 2, 2), (2033, 2, 29, 2, 3), (2034, 2, 32, 2, 4), (2035, 2, 38, 2, 5), (2036, 2, 42, 2, 6), (2037, 2, 45, 2, 7), (2038, 2, 48, 2, 8), (2039, 2, 52, 2, 9), (2069, 7, 12, 7, 0), (2070, 12, 358, 7, 0), (2071, 7, 18, 7, 1), (2079, 12, 12, 12, 0), (2080, 12, 16, 12, 1), (2081, 12, 20, 12, 2), (2082, 12, 27, 12, 3), (2083, 12, 34, 12, 4), (2084, 12, 41, 12, 5), (2085, 12, 48, 12, 6), (2086, 12, 55, 12, 7), (2087, 12, 62, 12, 8), (2088, 12, 69, 12, 9), (2089, 12, 76, 12, 10), (2090, 12, 83, 12, 11), (2091, 12, 87, 12, 12), (2092, 12, 91, 12, 13), (2093, 12, 95, 12, 14), (6190, 0, 1, 0, 0), (6191, 0, 13, 0, 1), (6192, 0, 17, 0, 2), (6193, 0, 21, 0, 3), (6194, 0, 24, 0, 4), (6195, 0, 79, 0, 5), (6196, 0, 97, 0, 6), (6197, 0, 100, 0, 7), (6198, 0, 82, 0, 8), (6199, 0, 107, 0, 9), (6200, 0, 120, 0, 10), (6201, 0, 125, 0, 11), (6202, 0, 128, 0, 12), (6203, 0, 202, 0, 13), (6204, 0, 27, 0, 14), (6205, 0, 30, 0, 15), (6206, 0, 33, 0, 16), (6207, 0, 36, 0, 17), (6208, 0, 39, 0, 18), (6209, 0, 42, 0, 19), (6210, 0, 45, 0, 20), (6211, 0, 306, 0, 21), (6212, 0, 324, 0, 22), (6213, 0, 48, 0, 23), (6214, 0, 52, 0, 24), (6215, 0, 55, 0, 25), (6216, 0, 58, 0, 26), (6217, 0, 61, 0, 27), (6218, 0, 64, 0, 28), (6219, 0, 354, 0, 29), (6220, 0, 369, 0, 30), (6221, 0, 67, 0, 31), (6222, 0, 384, 0, 32), (6223, 0, 387, 0, 33), (6224, 0, 390, 0, 34), (6225, 0, 70, 0, 35), (6226, 0, 73, 0, 36), (6227, 0, 76, 0, 37)]
def pn_ML : List (Nat × Nat × Nat × Nat) := [(1024, 30, 9, 12001), (1032, 12, 11, 1001), (1038, 1, 11, 11001), (1066, 1, 20, 10001), (1121, 12, 26, 9001), (1126, 9, 23, 1001), (1166, 12, 33, 3001), (1179, 12, 40, 8001), (1184, 8, 20, 11001), (1197, 12, 47, 4001), (1202, 4, 11, 3001), (1204, 4, 27, 11001), (1223, 12, 54, 6001), (1228, 6, 17, 11001), (2004, 12, 61, 5001), (2009, 5, 11, 11001), (2020, 12, 68, 2001), (2025, 2, 11, 8001), (2027, 2, 20, 11001), (2029, 2, 37, 10001), (2063, 12, 75, 7001), (2068, 7, 11, 11001), (2078, 12, 82, 11001), (2126, 30, 13, 12002), (2130, 12, 98, 9002), (2134, 12, 102, 9003), (2138, 30, 18, 12003), (2142, 12, 110, 9004), (2146, 9, 48, 20000), (2149, 9, 54, 20001), (2152, 9, 57, 1003), (2156, 1, 46, 11008), (2160, 11, 23, 22000), (2163, 1, 49, 10002), (2167, 10, 28, 22000), (2168, 9, 60, 9005), (2172, 9, 86, 9007), (2176, 9, 96, 9006), (2180, 9, 89, 9010), (2184, 9, 99, 9008), (2188, 9, 102, 9009), (2192, 9, 93, 9011), (2196, 9, 105, 9012), (2201, 9, 117, 9014), (2205, 9, 154, 23000), (2209, 23, 335, 23001), (2215, 9, 158, 23002), (2219, 23, 492, 23003), (2223, 23, 495, 24000), (2226, 24, 9, 23004), (2231, 23, 1059, 25000), (3019, 9, 135, 9013), (3032, 9, 110, 23005), (3036, 23, 633, 23006), (3040, 23, 505, 23000), (3041, 23, 637, 24001), (3044, 24, 88, 24002), (3047, 24, 92, 20000), (3048, 24, 38, 20001), (3049, 24, 95, 24003), (3067, 23, 1062, 25001), (3087, 9, 63, 9021), (3091, 9, 162, 9015), (3095, 9, 165, 9016), (3099, 9, 76, 9018), (3103, 9, 179, 11011), (3107, 11, 33, 11009), (3111, 11, 29, 11003), (3115, 11, 19, 11002), (3119, 9, 67, 9022), (3123, 9, 183, 9020), (3127, 9, 172, 11002), (3128, 9, 186, 11006), (3132, 9, 190, 11009), (3133, 9, 70, 9023), (3137, 9, 73, 9024), (3141, 9, 80, 9019), (3145, 9, 201, 9025), (3149, 9, 207, 9026), (3153, 9, 213, 9027), (3157, 9, 216, 9028), (3161, 9, 219, 9030), (3165, 9, 225, 9031), (3169, 9, 228, 9032), (3173, 9, 231, 9017), (3177, 9, 210, 10004), (3181, 9, 222, 9029), (3184, 9, 204, 10005), (3188, 12, 119, 1002), (3192, 1, 39, 11007), (3196, 1, 43, 10003), (3200, 30, 23, 12004), (3204, 30, 27, 12005), (3208, 12, 132, 11002), (3209, 12, 135, 11014), (3213, 11, 45, 11005), (3217, 11, 49, 21000), (3223, 12, 139, 11005), (3224, 12, 142, 11022), (3228, 12, 145, 11027), (3232, 11, 67, 11026), (3235, 12, 148, 11019), (3239, 11, 54, 11016), (4003, 12, 151, 11017), (4007, 12, 155, 11018), (4011, 30, 32, 12006), (4015, 12, 158, 11020), (4019, 30, 36, 12007), (4023, 12, 170, 12059), (4027, 12, 385, 2002), (4031, 12, 174, 2003), (4035, 2, 56, 2004), (4039, 2, 59, 2009), (4043, 2, 69, 2010), (4047, 2, 115, 11015), (4051, 2, 118, 3008), (4054, 3, 19, 11004), (4058, 3, 43, 3009), (4061, 3, 38, 21000), (4062, 3, 47, 20000), (4063, 2, 101, 11004), (4064, 2, 124, 8002), (4068, 8, 25, 11016), (4069, 8, 29, 11031), (4073, 8, 32, 22000), (4074, 8, 38, 8003), (4078, 8, 53, 21000), (4079, 8, 42, 8004), (4083, 8, 58, 8005), (4087, 8, 61, 20000), (4088, 2, 128, 11031), (4089, 2, 131, 2011), (4093, 2, 135, 11014), (4094, 2, 138, 11022), (4095, 2, 141, 11027), (4096, 2, 144, 11019), (4097, 2, 76, 2013), (4101, 2, 150, 20001), (4102, 2, 155, 20000), (4103, 2, 161, 2012), (4107, 2, 164, 2014), (4110, 2, 168, 2015), (4115, 2, 176, 20002), (4118, 2, 179, 20003), (4121, 30, 40, 12008), (4125, 30, 44, 12009), (4129, 12, 180, 21000), (4130, 30, 49, 12010), (4134, 12, 185, 2005), (4138, 2, 80, 11003), (4139, 2, 83, 11006), (4140, 2, 86, 11005), (4141, 2, 90, 11007), (4142, 2, 93, 11009), (4143, 2, 97, 2008), (4147, 30, 53, 12011), (4151, 12, 188, 1004), (4155, 1, 56, 20001), (4156, 12, 191, 11009), (4157, 12, 195, 11015), (4158, 30, 57, 12012), (4162, 12, 199, 12061), (4166, 12, 391, 11003), (4167, 12, 375, 11006), (4168, 12, 202, 11010), (4172, 30, 61, 12013), (4176, 30, 65, 12014), (4180, 12, 205, 2006), (4184, 2, 105, 11016), (4185, 2, 108, 11011), (4186, 2, 111, 2007), (4190, 12, 208, 12060), (4194, 12, 388, 11011), (4195, 30, 69, 12015), (4199, 12, 211, 11012), (4203, 30, 73, 12016), (4207, 12, 214, 11013), (4211, 11, 37, 11004), (4212, 11, 41, 11011), (4213, 30, 77, 12017), (4217, 12, 220, 1005), (4221, 30, 81, 12018), (4225, 12, 223, 12055), (4228, 12, 226, 11007), (4229, 12, 228, 12065), (4233, 12, 232, 12063), (4238, 12, 236, 12064), (5001, 12, 240, 11023), (5005, 11, 61, 11006), (5006, 11, 64, 11025), (5010, 30, 85, 12019), (5014, 30, 89, 12020), (5018, 12, 243, 12062), (5022, 12, 279, 3002), (5026, 12, 288, 3007), (5030, 3, 34, 3004), (5034, 3, 30, 3003), (5038, 12, 264, 11004), (5039, 12, 394, 3004), (5040, 30, 93, 12021), (5044, 12, 246, 12058), (5048, 12, 249, 12012), (5049, 12, 252, 12011), (5050, 30, 97, 12022), (5054, 12, 255, 11024), (5058, 30, 101, 12023), (5062, 12, 258, 11028), (5066, 30, 105, 12024), (5070, 12, 261, 11029), (5074, 11, 70, 11030), (5078, 30, 109, 12025), (5082, 12, 267, 11031), (5083, 30, 113, 12026), (5087, 12, 270, 11032), (5091, 30, 117, 12027), (5095, 12, 273, 11033), (5099, 11, 73, 11034), (5103, 12, 276, 11034), (5104, 30, 121, 12028), (5108, 12, 282, 3005), (5112, 30, 125, 12029), (5116, 12, 285, 3006), (5120, 30, 129, 12030), (5124, 30, 133, 12031), (5128, 12, 291, 8002), (5129, 30, 137, 12032), (5133, 12, 295, 8006), (5137, 8, 66, 11004), (5138, 8, 70, 8002), (5139, 8, 74, 8007), (5143, 30, 141, 12033), (5148, 12, 300, 8008), (5152, 8, 78, 8009), (5156, 8, 82, 8012), (5160, 8, 85, 8010), (5164, 8, 88, 8013), (5168, 8, 91, 8014), (5172, 8, 95, 8011), (5176, 30, 146, 12034), (5180, 30, 150, 12035), (5184, 12, 304, 4002), (5188, 4, 36, 3002), (5189, 4, 40, 22000), (5190, 12, 307, 4004), (5194, 4, 52, 11017), (5195, 4, 70, 4005), (5199, 4, 74, 4006), (5203, 4, 84, 3003), (5204, 4, 56, 21000), (5205, 4, 77, 4009), (5209, 4, 91, 4010), (5213, 4, 80, 4007), (5217, 4, 87, 4008), (5221, 30, 154, 12036), (5225, 12, 310, 4003), (5229, 4, 62, 20000), (5230, 4, 67, 4004), (5231, 30, 158, 12037), (5235, 30, 162, 12038), (5239, 30, 166, 12039), (6003, 12, 313, 6002), (6007, 6, 29, 6003), (6011, 6, 36, 20001), (6012, 6, 42, 6004), (6016, 6, 45, 11006), (6017, 30, 170, 12040), (6021, 12, 317, 6006), (6025, 6, 56, 6008), (6029, 6, 59, 11014), (6030, 6, 53, 6007), (6034, 30, 174, 12041), (6038, 12, 320, 12056), (6041, 12, 323, 6005), (6045, 6, 49, 11015), (6046, 30, 178, 12042), (6054, 30, 183, 12043), (6062, 30, 187, 12044), (6066, 12, 339, 5002), (6070, 5, 24, 11007), (6071, 5, 28, 5003), (6075, 5, 32, 11024), (6076, 5, 36, 20003), (6077, 5, 42, 5004), (6081, 5, 46, 11010), (6082, 5, 50, 5005), (6085, 5, 54, 11009), (6086, 12, 342, 5006), (6090, 30, 191, 12045), (6094, 12, 345, 12057), (6097, 12, 348, 7003), (6101, 7, 25, 11014), (6102, 7, 29, 11018), (6103, 7, 32, 21000), (6104, 30, 195, 12046), (6108, 12, 351, 7002), (6112, 7, 21, 11007), (6113, 12, 354, 7004), (6117, 7, 41, 11006), (6118, 7, 45, 7006), (6122, 7, 66, 11010), (6123, 7, 70, 7003), (6124, 7, 61, 20001), (6125, 7, 49, 2002), (6126, 7, 55, 7007), (6130, 7, 74, 11009), (6131, 7, 58, 2005), (6132, 30, 199, 12047), (6136, 30, 203, 12048), (6140, 12, 361, 7005), (6144, 30, 207, 12049), (6148, 30, 214, 12050), (6155, 12, 371, 12066), (6159, 12, 399, 12067), (6162, 30, 219, 12051), (6167, 30, 223, 12052), (6171, 30, 227, 12053), (6175, 30, 231, 12054), (6179, 12, 381, 11021), (6183, 11, 57, 11017), (6186, 30, 12, 3), (7065, 30, 17, 4), (7069, 30, 22, 28), (7073, 0, 141, 2), (7076, 0, 134, 9), (7080, 0, 103, 5), (7084, 0, 110, 6), (7087, 0, 114, 8), (7092, 0, 87, 23000), (7093, 0, 93, 23002), (7094, 0, 117, 7), (7098, 0, 162, 12), (7102, 0, 131, 11), (7106, 0, 190, 16), (7111, 0, 137, 10), (7115, 0, 147, 13), (7119, 0, 193, 17), (7123, 0, 151, 14), (7126, 0, 155, 15), (7129, 0, 196, 18), (7133, 0, 199, 27), (7137, 0, 184, 26), (7141, 0, 187, 25), (7145, 0, 181, 24), (7149, 0, 169, 20), (7153, 0, 159, 19), (7157, 0, 172, 23), (7161, 0, 178, 22), (7165, 0, 175, 21), (7171, 30, 26, 29), (7175, 30, 31, 38), (7179, 0, 214, 30), (7183, 0, 205, 31), (7187, 0, 208, 32), (7190, 0, 218, 33), (7194, 0, 221, 34), (7198, 0, 211, 35), (7202, 0, 224, 36), (7206, 0, 227, 37), (7210, 30, 35, 39), (7214, 30, 39, 49), (7218, 0, 260, 48), (7222, 0, 253, 46), (7226, 0, 237, 45), (7230, 0, 240, 41), (7234, 0, 230, 40), (7238, 0, 243, 43), (8002, 0, 233, 42), (8006, 0, 246, 44), (8010, 0, 256, 47), (8015, 30, 43, 50), (8019, 30, 48, 51), (8023, 30, 52, 60), (8027, 0, 280, 57), (8031, 0, 267, 55), (8035, 0, 264, 54), (8039, 0, 270, 52), (8043, 0, 274, 56), (8047, 0, 277, 53), (8051, 30, 56, 61), (8055, 0, 284, 58), (8059, 30, 60, 62), (8063, 0, 287, 59), (8067, 30, 64, 63), (8071, 30, 68, 66), (8075, 0, 294, 65), (8079, 0, 291, 64), (8083, 30, 72, 69), (8087, 0, 301, 68), (8091, 0, 298, 67), (8094, 30, 76, 70), (8098, 30, 80, 71), (8103, 30, 84, 74), (8108, 0, 313, 72), (8113, 0, 317, 73), (8117, 30, 88, 75), (8121, 30, 92, 77), (8125, 0, 320, 76), (8129, 30, 96, 79), (8134, 0, 329, 78), (8139, 30, 100, 80), (8143, 30, 104, 81), (8147, 30, 108, 82), (8151, 30, 112, 83), (8155, 30, 116, 85), (8159, 0, 332, 84), (8163, 30, 120, 86), (8167, 30, 124, 87), (8171, 30, 128, 89), (8175, 0, 335, 88), (8179, 30, 132, 90), (8183, 30, 136, 91), (8187, 30, 140, 92), (8191, 30, 145, 93), (8197, 30, 149, 94), (8201, 30, 153, 98), (8205, 0, 349, 96), (8209, 0, 346, 97), (8213, 0, 342, 95), (8217, 30, 157, 99), (8221, 30, 161, 100), (8226, 30, 165, 101), (8230, 30, 169, 105), (8234, 0, 363, 104), (8238, 0, 360, 103), (9002, 0, 357, 102), (9005, 30, 173, 108), (9009, 0, 372, 107), (9013, 0, 366, 106), (9017, 30, 177, 109), (9021, 30, 182, 112), (9026, 0, 377, 110), (9030, 0, 380, 111), (9034, 30, 186, 113), (9038, 30, 190, 117), (9043, 0, 393, 116), (9047, 0, 396, 114), (9051, 0, 400, 115), (9055, 0, 406, 118), (9059, 30, 194, 120), (9064, 0, 411, 119), (9068, 30, 198, 124), (9072, 0, 420, 123), (9076, 0, 414, 121), (9080, 0, 417, 122), (9084, 30, 202, 125), (9089, 30, 206, 126), (9093, 30, 211, 128), (9098, 30, 218, 129), (9105, 0, 434, 127), (9108, 30, 222, 130), (9112, 30, 226, 131), (9116, 30, 230, 132), (9120, 30, 234, 134), (9124, 0, 438, 133)]
def pn_KI : List (Nat × Nat × Nat × Int32) := [(3220, 21, 265, 1431655765), (3221, 21, 266, 858993459), (3222, 21, 267, 252645135), (5047, 12, 384, 1103515245), (8138, 0, 323, 1103515245)]
def pn_KL : List (Nat × Nat × Nat × Int64) := [(2010, 5, 18, -1), (4113, 2, 172, -1000000), (4114, 2, 174, 1000000), (4237, 12, 397, 1100), (5147, 12, 298, -3), (6152, 12, 365, -2), (6153, 12, 367, -6), (6154, 12, 369, -7), (6166, 12, 379, 100), (7110, 0, 145, 11), (7169, 0, 165, 7), (7170, 0, 167, 14), (8013, 0, 249, 1000000), (8014, 0, 251, -1000000), (8102, 0, 304, 12), (8107, 0, 311, 3), (8112, 0, 309, 100), (8133, 0, 327, 60), (8195, 0, 338, 6), (8196, 0, 340, -3), (8225, 0, 352, 10), (9025, 0, 375, 5), (9042, 0, 404, 15), (9063, 0, 409, 99), (9088, 0, 424, 2), (9097, 0, 426, 40), (9102, 0, 428, -2), (9103, 0, 430, -6), (9104, 0, 432, -7), (9128, 30, 212, 4294967295)]
def pn_Tf : Nat → u_T := fun k => match k with
  | 0 => pn_T0
  | 1 => pn_T1
  | 2 => pn_T2
  | 3 => pn_T3
  | 4 => pn_T4
  | 5 => pn_T5
  | 6 => pn_T6
  | 7 => pn_T7
  | 8 => pn_T8
  | 9 => pn_T9
  | 10 => pn_T10
  | 11 => pn_T11
  | _ => pn_T12
def pn_tf : Nat → Nat → FieldType := fun k => match k with
  | 0 => pn_ty0
  | 1 => pn_ty1
  | 2 => pn_ty2
  | 3 => pn_ty3
  | 4 => pn_ty4
  | 5 => pn_ty5
  | 6 => pn_ty6
  | 7 => pn_ty7
  | 8 => pn_ty8
  | 9 => pn_ty9
  | 10 => pn_ty10
  | 11 => pn_ty11
  | _ => pn_ty12
def pn_kt (ty : FieldType) : Nat := match ty with
  | .int => 0
  | .long => 1
  | .boolean => 3
  | .byte => 4
  | .object _ => 2
  | .array _ => 2
  | _ => 9
/-- what is known of a class by its number -/
def pn_CF (a : Nat) : Prop := ∃ (C : String) (N : Nat), pn_cl[a]? = some (C, pn_Tf a, N) ∧ (∀ w ∈ u_ws C (pn_Tf a) N, w ∈ lw_tbl.filter goodWord) ∧ (∀ k, k < N → parseFieldDescriptor (pn_Tf a k).2.2.1 = some (pn_tf a k)) ∧ (∀ x, x < N → ∀ y, y < N → x ≠ y → (pn_Tf a x).2.1 ≠ (pn_Tf a y).2.1) ∧ pn_fk a = (List.range N).map (fun b => pn_kt (pn_tf a b)) ∧ C = pn_own a
theorem pn_cf : ∀ a, a < 13 → pn_CF a := by
  intro a h
  match a, h with
  | 0, _ => exact ⟨_, 38, rfl, pn_in0, pn_tok0, pn_nm0, by decide +kernel, rfl⟩
  | 1, _ => exact ⟨_, 6, rfl, pn_in1, pn_tok1, pn_nm1, by decide +kernel, rfl⟩
  | 2, _ => exact ⟨_, 10, rfl, pn_in2, pn_tok2, pn_nm2, by decide +kernel, rfl⟩
  | 3, _ => exact ⟨_, 2, rfl, pn_in3, pn_tok3, pn_nm3, by decide +kernel, rfl⟩
  | 4, _ => exact ⟨_, 5, rfl, pn_in4, pn_tok4, pn_nm4, by decide +kernel, rfl⟩
  | 5, _ => exact ⟨_, 2, rfl, pn_in5, pn_tok5, pn_nm5, by decide +kernel, rfl⟩
  | 6, _ => exact ⟨_, 4, rfl, pn_in6, pn_tok6, pn_nm6, by decide +kernel, rfl⟩
  | 7, _ => exact ⟨_, 2, rfl, pn_in7, pn_tok7, pn_nm7, by decide +kernel, rfl⟩
  | 8, _ => exact ⟨_, 3, rfl, pn_in8, pn_tok8, pn_nm8, by decide +kernel, rfl⟩
  | 9, _ => exact ⟨_, 10, rfl, pn_in9, pn_tok9, pn_nm9, by decide +kernel, rfl⟩
  | 10, _ => exact ⟨_, 5, rfl, pn_in10, pn_tok10, pn_nm10, by decide +kernel, rfl⟩
  | 11, _ => exact ⟨_, 2, rfl, pn_in11, pn_tok11, pn_nm11, by decide +kernel, rfl⟩
  | 12, _ => exact ⟨_, 15, rfl, pn_in12, pn_tok12, pn_nm12, by decide +kernel, rfl⟩
  | n + 13, h => exact absurd h (by omega)
theorem pn_FL_ok : ∀ q ∈ pn_FL, pn_at q.1 = some (Cond.fieldLink (pn_own q.2.1) q.2.2.1 (pn_Tf q.2.2.2.1 q.2.2.2.2).1 (pn_Tf q.2.2.2.1 q.2.2.2.2).2.1 (pn_Tf q.2.2.2.1 q.2.2.2.2).2.2.1) ∧ q.2.2.2.1 < 13 := by decide +kernel
theorem pn_ML_ok : ∀ q ∈ pn_ML, pn_at q.1 = some (Cond.methodLink (pn_own q.2.1) q.2.2.1 (pn_i q.2.2.2).2.1) := by decide +kernel
theorem pn_KI_ok : ∀ q ∈ pn_KI, pn_at q.1 = some (Cond.constant (pn_own q.2.1) q.2.2.1 q.2.2.2) := by decide +kernel
theorem pn_KL_ok : ∀ q ∈ pn_KL, pn_at q.1 = some (Cond.constantLong (pn_own q.2.1) q.2.2.1 q.2.2.2) := by decide +kernel
/-- a static method by its key: the places of code, initialized, static -/
def pn_MS : List (Nat × Nat × Nat × Nat) := [(2, 7075, 1013, 7074), (6, 7086, 1013, 7085), (7, 7096, 1013, 7095), (14, 7125, 1013, 7124), (15, 7128, 1013, 7127), (32, 7189, 1013, 7188), (47, 8012, 1013, 8011), (67, 8093, 1013, 8092), (102, 9004, 1013, 9003), (127, 9107, 1013, 9106), (2014, 4109, 1011, 4108), (2015, 4112, 1011, 4111), (3008, 4053, 1006, 4052), (3009, 4060, 1006, 4059), (5005, 6084, 1010, 6083), (9029, 3183, 1005, 3182), (11026, 3234, 1003, 3233), (12055, 4227, 1001, 4226), (12056, 6040, 1001, 6039), (12057, 6096, 1001, 6095), (12058, 5046, 1001, 5045), (12064, 5000, 1001, 4239), (12067, 6161, 1001, 6160), (20000, 2148, 1014, 2147), (20001, 2151, 1014, 2150), (20002, 4117, 1014, 4116), (20003, 4120, 1014, 4119), (21000, 3219, 1021, 3218), (22000, 2162, 1015, 2161), (23004, 2228, 1016, 2227), (23007, 3066, 1016, 3065), (24000, 2225, 1017, 2224), (24001, 3043, 1017, 3042), (24002, 3046, 1017, 3045), (24003, 3051, 1017, 3050), (25000, 2233, 1018, 2232), (25001, 3069, 1018, 3068)]
/-- an instance method by its key: the places of code, initialized, instanceMethod, selects -/
def pn_MV : List (Nat × Nat × Nat × Nat × Nat) := [(4, 7068, 1013, 7066, 7067), (5, 7083, 1013, 7082, 69), (8, 7090, 1013, 7089, 70), (9, 7079, 1013, 7078, 68), (10, 7114, 1013, 7113, 74), (11, 7105, 1013, 7104, 72), (12, 7101, 1013, 7100, 71), (13, 7118, 1013, 7117, 75), (16, 7109, 1013, 7108, 73), (17, 7122, 1013, 7121, 76), (18, 7132, 1013, 7131, 77), (19, 7156, 1013, 7155, 83), (20, 7152, 1013, 7151, 82), (21, 7168, 1013, 7167, 86), (22, 7164, 1013, 7163, 85), (23, 7160, 1013, 7159, 84), (24, 7148, 1013, 7147, 81), (25, 7144, 1013, 7143, 80), (26, 7140, 1013, 7139, 79), (27, 7136, 1013, 7135, 78), (28, 7072, 1013, 7070, 7071), (29, 7174, 1013, 7172, 7173), (30, 7182, 1013, 7181, 87), (31, 7186, 1013, 7185, 88), (33, 7193, 1013, 7192, 89), (34, 7197, 1013, 7196, 90), (35, 7201, 1013, 7200, 91), (36, 7205, 1013, 7204, 92), (37, 7209, 1013, 7208, 93), (38, 7178, 1013, 7176, 7177), (39, 7213, 1013, 7211, 7212), (40, 7237, 1013, 7236, 98), (41, 7233, 1013, 7232, 97), (42, 8005, 1013, 8004, 100), (43, 8001, 1013, 8000, 99), (44, 8009, 1013, 8008, 101), (45, 7229, 1013, 7228, 96), (46, 7225, 1013, 7224, 95), (48, 7221, 1013, 7220, 94), (49, 7217, 1013, 7215, 7216), (50, 8018, 1013, 8016, 8017), (51, 8022, 1013, 8020, 8021), (52, 8042, 1013, 8041, 105), (53, 8050, 1013, 8049, 107), (54, 8038, 1013, 8037, 104), (55, 8034, 1013, 8033, 103), (56, 8046, 1013, 8045, 106), (57, 8030, 1013, 8029, 102), (58, 8058, 1013, 8057, 108), (59, 8066, 1013, 8065, 109), (60, 8026, 1013, 8024, 8025), (61, 8054, 1013, 8052, 8053), (62, 8062, 1013, 8060, 8061), (63, 8070, 1013, 8068, 8069), (64, 8082, 1013, 8081, 111), (65, 8078, 1013, 8077, 110), (66, 8074, 1013, 8072, 8073), (68, 8090, 1013, 8089, 112), (69, 8086, 1013, 8084, 8085), (70, 8097, 1013, 8095, 8096), (71, 8101, 1013, 8099, 8100), (72, 8111, 1013, 8110, 113), (73, 8116, 1013, 8115, 114), (74, 8106, 1013, 8104, 8105), (75, 8120, 1013, 8118, 8119), (76, 8128, 1013, 8127, 115), (77, 8124, 1013, 8122, 8123), (78, 8137, 1013, 8136, 116), (79, 8132, 1013, 8130, 8131), (80, 8142, 1013, 8140, 8141), (81, 8146, 1013, 8144, 8145), (82, 8150, 1013, 8148, 8149), (83, 8154, 1013, 8152, 8153), (84, 8162, 1013, 8161, 117), (85, 8158, 1013, 8156, 8157), (86, 8166, 1013, 8164, 8165), (87, 8170, 1013, 8168, 8169), (88, 8178, 1013, 8177, 118), (89, 8174, 1013, 8172, 8173), (90, 8182, 1013, 8180, 8181), (91, 8186, 1013, 8184, 8185), (92, 8190, 1013, 8188, 8189), (93, 8194, 1013, 8192, 8193), (94, 8200, 1013, 8198, 8199), (95, 8216, 1013, 8215, 121), (96, 8208, 1013, 8207, 119), (97, 8212, 1013, 8211, 120), (98, 8204, 1013, 8202, 8203), (99, 8220, 1013, 8218, 8219), (100, 8224, 1013, 8222, 8223), (101, 8229, 1013, 8227, 8228), (103, 9001, 1013, 9000, 123), (104, 8237, 1013, 8236, 122), (105, 8233, 1013, 8231, 8232), (106, 9016, 1013, 9015, 125), (107, 9012, 1013, 9011, 124), (108, 9008, 1013, 9006, 9007), (109, 9020, 1013, 9018, 9019), (110, 9029, 1013, 9028, 126), (111, 9033, 1013, 9032, 127), (112, 9024, 1013, 9022, 9023), (113, 9037, 1013, 9035, 9036), (114, 9050, 1013, 9049, 129), (115, 9054, 1013, 9053, 130), (116, 9046, 1013, 9045, 128), (117, 9041, 1013, 9039, 9040), (118, 9058, 1013, 9057, 131), (119, 9067, 1013, 9066, 132), (120, 9062, 1013, 9060, 9061), (121, 9079, 1013, 9078, 134), (122, 9083, 1013, 9082, 135), (123, 9075, 1013, 9074, 133), (124, 9071, 1013, 9069, 9070), (125, 9087, 1013, 9085, 9086), (126, 9092, 1013, 9090, 9091), (128, 9096, 1013, 9094, 9095), (129, 9101, 1013, 9099, 9100), (130, 9111, 1013, 9109, 9110), (131, 9115, 1013, 9113, 9114), (132, 9119, 1013, 9117, 9118), (133, 9127, 1013, 9126, 136), (134, 9123, 1013, 9121, 9122), (1002, 3191, 1002, 3189, 3190), (1003, 2155, 1002, 2153, 2154), (1004, 4154, 1002, 4152, 4153), (1005, 4220, 1002, 4218, 4219), (2002, 4030, 1011, 4028, 4029), (2003, 4034, 1011, 4032, 4033), (2004, 4038, 1011, 4037, 28), (2005, 4137, 1011, 4135, 4136), (2006, 4183, 1011, 4181, 4182), (2007, 4189, 1011, 4188, 39), (2008, 4146, 1011, 4145, 37), (2009, 4042, 1011, 4041, 29), (2010, 4046, 1011, 4045, 30), (2011, 4092, 1011, 4091, 34), (2012, 4106, 1011, 4105, 36), (2013, 4100, 1011, 4099, 35), (3002, 5025, 1006, 5023, 5024), (3003, 5037, 1006, 5035, 5036), (3004, 5033, 1006, 5031, 5032), (3005, 5111, 1006, 5109, 5110), (3006, 5119, 1006, 5117, 5118), (3007, 5029, 1006, 5027, 5028), (4002, 5187, 1008, 5185, 5186), (4003, 5228, 1008, 5226, 5227), (4004, 5193, 1008, 5191, 5192), (4005, 5198, 1008, 5197, 53), (4006, 5202, 1008, 5201, 54), (4007, 5216, 1008, 5215, 57), (4008, 5220, 1008, 5219, 58), (4009, 5208, 1008, 5207, 55), (4010, 5212, 1008, 5211, 56), (5002, 6069, 1010, 6067, 6068), (5003, 6074, 1010, 6073, 63), (5004, 6080, 1010, 6079, 64), (5006, 6089, 1010, 6087, 6088), (6002, 6006, 1009, 6004, 6005), (6003, 6010, 1009, 6009, 59), (6004, 6015, 1009, 6014, 60), (6005, 6044, 1009, 6042, 6043), (6006, 6024, 1009, 6022, 6023), (6007, 6033, 1009, 6032, 62), (6008, 6028, 1009, 6027, 61), (7002, 6111, 1012, 6109, 6110), (7003, 6100, 1012, 6098, 6099), (7004, 6116, 1012, 6114, 6115), (7005, 6143, 1012, 6141, 6142), (7006, 6121, 1012, 6120, 65), (7007, 6129, 1012, 6128, 66), (8002, 4067, 1007, 4065, 4066), (8003, 4077, 1007, 4076, 31), (8004, 4082, 1007, 4081, 32), (8005, 4086, 1007, 4085, 33), (8006, 5136, 1007, 5134, 5135), (8007, 5142, 1007, 5141, 46), (8008, 5151, 1007, 5149, 5150), (8009, 5155, 1007, 5154, 47), (8010, 5163, 1007, 5162, 49), (8011, 5175, 1007, 5174, 52), (8012, 5159, 1007, 5158, 48), (8013, 5167, 1007, 5166, 50), (8014, 5171, 1007, 5170, 51), (9002, 2133, 1005, 2131, 2132), (9003, 2137, 1005, 2135, 2136), (9004, 2145, 1005, 2143, 2144), (9005, 2171, 1005, 2170, 0), (9006, 2179, 1005, 2178, 2), (9007, 2175, 1005, 2174, 1), (9008, 2187, 1005, 2186, 4), (9009, 2191, 1005, 2190, 5), (9010, 2183, 1005, 2182, 3), (9011, 2195, 1005, 2194, 6), (9012, 2199, 1005, 2198, 7), (9013, 3022, 1005, 3021, 9), (9014, 2204, 1005, 2203, 8), (9015, 3094, 1005, 3093, 11), (9016, 3098, 1005, 3097, 12), (9017, 3176, 1005, 3175, 26), (9018, 3102, 1005, 3101, 13), (9019, 3144, 1005, 3143, 18), (9020, 3126, 1005, 3125, 15), (9021, 3090, 1005, 3089, 10), (9022, 3122, 1005, 3121, 14), (9023, 3136, 1005, 3135, 16), (9024, 3140, 1005, 3139, 17), (9025, 3148, 1005, 3147, 19), (9026, 3152, 1005, 3151, 20), (9027, 3156, 1005, 3155, 21), (9028, 3160, 1005, 3159, 22), (9030, 3164, 1005, 3163, 23), (9031, 3168, 1005, 3167, 24), (9032, 3172, 1005, 3171, 25), (10002, 2166, 1004, 2164, 2165), (10003, 3199, 1004, 3197, 3198), (10004, 3180, 1004, 3178, 3179), (10005, 3187, 1004, 3185, 3186), (11002, 3118, 1003, 3116, 3117), (11003, 3114, 1003, 3112, 3113), (11004, 4057, 1003, 4055, 4056), (11005, 3216, 1003, 3214, 3215), (11006, 3131, 1003, 3129, 3130), (11007, 3195, 1003, 3193, 3194), (11008, 2159, 1003, 2157, 2158), (11009, 3110, 1003, 3108, 3109), (11010, 4171, 1003, 4169, 4170), (11011, 3106, 1003, 3104, 3105), (11012, 4202, 1003, 4200, 4201), (11013, 4210, 1003, 4208, 4209), (11014, 3212, 1003, 3210, 3211), (11015, 4050, 1003, 4048, 4049), (11016, 4002, 1003, 4000, 4001), (11017, 4006, 1003, 4004, 4005), (11018, 4010, 1003, 4008, 4009), (11019, 3238, 1003, 3236, 3237), (11020, 4018, 1003, 4016, 4017), (11021, 6182, 1003, 6180, 6181), (11022, 3227, 1003, 3225, 3226), (11023, 5004, 1003, 5002, 5003), (11024, 5057, 1003, 5055, 5056), (11025, 5009, 1003, 5008, 43), (11027, 3231, 1003, 3229, 3230), (11028, 5065, 1003, 5063, 5064), (11029, 5073, 1003, 5071, 5072), (11030, 5077, 1003, 5076, 45), (11031, 4072, 1003, 4070, 4071), (11032, 5090, 1003, 5088, 5089), (11033, 5098, 1003, 5096, 5097), (11034, 5102, 1003, 5100, 5101), (12002, 2129, 1001, 2127, 2128), (12003, 2141, 1001, 2139, 2140), (12004, 3203, 1001, 3201, 3202), (12005, 3207, 1001, 3205, 3206), (12006, 4014, 1001, 4012, 4013), (12007, 4022, 1001, 4020, 4021), (12008, 4124, 1001, 4122, 4123), (12009, 4128, 1001, 4126, 4127), (12010, 4133, 1001, 4131, 4132), (12011, 4150, 1001, 4148, 4149), (12012, 4161, 1001, 4159, 4160), (12013, 4175, 1001, 4173, 4174), (12014, 4179, 1001, 4177, 4178), (12015, 4198, 1001, 4196, 4197), (12016, 4206, 1001, 4204, 4205), (12017, 4216, 1001, 4214, 4215), (12018, 4224, 1001, 4222, 4223), (12019, 5013, 1001, 5011, 5012), (12020, 5017, 1001, 5015, 5016), (12021, 5043, 1001, 5041, 5042), (12022, 5053, 1001, 5051, 5052), (12023, 5061, 1001, 5059, 5060), (12024, 5069, 1001, 5067, 5068), (12025, 5081, 1001, 5079, 5080), (12026, 5086, 1001, 5084, 5085), (12027, 5094, 1001, 5092, 5093), (12028, 5107, 1001, 5105, 5106), (12029, 5115, 1001, 5113, 5114), (12030, 5123, 1001, 5121, 5122), (12031, 5127, 1001, 5125, 5126), (12032, 5132, 1001, 5130, 5131), (12033, 5146, 1001, 5144, 5145), (12034, 5179, 1001, 5177, 5178), (12035, 5183, 1001, 5181, 5182), (12036, 5224, 1001, 5222, 5223), (12037, 5234, 1001, 5232, 5233), (12038, 5238, 1001, 5236, 5237), (12039, 6002, 1001, 6000, 6001), (12040, 6020, 1001, 6018, 6019), (12041, 6037, 1001, 6035, 6036), (12042, 6049, 1001, 6047, 6048), (12043, 6057, 1001, 6055, 6056), (12044, 6065, 1001, 6063, 6064), (12045, 6093, 1001, 6091, 6092), (12046, 6107, 1001, 6105, 6106), (12047, 6135, 1001, 6133, 6134), (12048, 6139, 1001, 6137, 6138), (12049, 6147, 1001, 6145, 6146), (12050, 6151, 1001, 6149, 6150), (12051, 6165, 1001, 6163, 6164), (12052, 6170, 1001, 6168, 6169), (12053, 6174, 1001, 6172, 6173), (12054, 6178, 1001, 6176, 6177), (12059, 4026, 1001, 4025, 27), (12060, 4193, 1001, 4192, 40), (12061, 4165, 1001, 4164, 38), (12062, 5021, 1001, 5020, 44), (12063, 4236, 1001, 4235, 42), (12065, 4232, 1001, 4231, 41), (12066, 6158, 1001, 6157, 67), (23000, 2208, 1016, 2206, 2207), (23001, 2212, 1016, 2210, 2211), (23002, 2218, 1016, 2216, 2217), (23003, 2222, 1016, 2220, 2221), (23005, 3035, 1016, 3033, 3034), (23006, 3039, 1016, 3037, 3038)]
def pn_mok (i : pn_I) : Bool := decide (pn_own i.1 = i.2.1.cls) && decide (i.2.1.cls ≠ "java/lang/invoke/MethodHandle") && decide (i.2.1.cls ≠ "java/lang/invoke/VarHandle") && decide ((parseMethodDescriptor i.2.1.desc).map (fun d => d.parameters.length) = some i.2.2.2.2.2) && decide (i.2.2.2.1 ≤ 40)
theorem pn_MS_ok : ∀ q ∈ pn_MS, (pn_at q.2.2.1 = some (Cond.initialized (pn_i q.1).2.1.cls) ∧ pn_at q.2.2.2 = some (Cond.static (pn_i q.1).2.1)) ∧ pn_mok (pn_i q.1) = true := by decide +kernel
theorem pn_MV_ok : ∀ q ∈ pn_MV, (pn_at q.2.2.1 = some (Cond.initialized (pn_i q.1).2.1.cls) ∧ pn_at q.2.2.2.1 = some (Cond.instanceMethod (pn_i q.1).2.1) ∧ pn_at q.2.2.2.2 = some (Cond.selects (pn_i q.1).2.1.cls (pn_i q.1).2.1 (pn_i q.1).2.1)) ∧ pn_mok (pn_i q.1) = true := by decide +kernel
theorem pn_MS_code : ∀ q ∈ pn_MS, pn_at q.2.1 = some (Cond.code (pn_i q.1).2.1 (pn_i q.1).2.2.1 (pn_i q.1).2.2.2.1 (pn_i q.1).2.2.2.2.1) := by decide +kernel
def pn_MV0 : List (Nat × Nat × Nat × Nat × Nat) := [(4, 7068, 1013, 7066, 7067), (5, 7083, 1013, 7082, 69), (8, 7090, 1013, 7089, 70), (9, 7079, 1013, 7078, 68), (10, 7114, 1013, 7113, 74), (11, 7105, 1013, 7104, 72), (12, 7101, 1013, 7100, 71), (13, 7118, 1013, 7117, 75), (16, 7109, 1013, 7108, 73), (17, 7122, 1013, 7121, 76), (18, 7132, 1013, 7131, 77), (19, 7156, 1013, 7155, 83), (20, 7152, 1013, 7151, 82), (21, 7168, 1013, 7167, 86), (22, 7164, 1013, 7163, 85), (23, 7160, 1013, 7159, 84), (24, 7148, 1013, 7147, 81), (25, 7144, 1013, 7143, 80), (26, 7140, 1013, 7139, 79), (27, 7136, 1013, 7135, 78), (28, 7072, 1013, 7070, 7071), (29, 7174, 1013, 7172, 7173), (30, 7182, 1013, 7181, 87), (31, 7186, 1013, 7185, 88), (33, 7193, 1013, 7192, 89)]
theorem pn_MV_code0 : ∀ q ∈ pn_MV0, pn_at q.2.1 = some (Cond.code (pn_i q.1).2.1 (pn_i q.1).2.2.1 (pn_i q.1).2.2.2.1 (pn_i q.1).2.2.2.2.1) := by decide +kernel
def pn_MV1 : List (Nat × Nat × Nat × Nat × Nat) := [(34, 7197, 1013, 7196, 90), (35, 7201, 1013, 7200, 91), (36, 7205, 1013, 7204, 92), (37, 7209, 1013, 7208, 93), (38, 7178, 1013, 7176, 7177), (39, 7213, 1013, 7211, 7212), (40, 7237, 1013, 7236, 98), (41, 7233, 1013, 7232, 97), (42, 8005, 1013, 8004, 100), (43, 8001, 1013, 8000, 99), (44, 8009, 1013, 8008, 101), (45, 7229, 1013, 7228, 96), (46, 7225, 1013, 7224, 95), (48, 7221, 1013, 7220, 94), (49, 7217, 1013, 7215, 7216), (50, 8018, 1013, 8016, 8017), (51, 8022, 1013, 8020, 8021), (52, 8042, 1013, 8041, 105), (53, 8050, 1013, 8049, 107), (54, 8038, 1013, 8037, 104), (55, 8034, 1013, 8033, 103), (56, 8046, 1013, 8045, 106), (57, 8030, 1013, 8029, 102), (58, 8058, 1013, 8057, 108), (59, 8066, 1013, 8065, 109)]
theorem pn_MV_code1 : ∀ q ∈ pn_MV1, pn_at q.2.1 = some (Cond.code (pn_i q.1).2.1 (pn_i q.1).2.2.1 (pn_i q.1).2.2.2.1 (pn_i q.1).2.2.2.2.1) := by decide +kernel
def pn_MV2 : List (Nat × Nat × Nat × Nat × Nat) := [(60, 8026, 1013, 8024, 8025), (61, 8054, 1013, 8052, 8053), (62, 8062, 1013, 8060, 8061), (63, 8070, 1013, 8068, 8069), (64, 8082, 1013, 8081, 111), (65, 8078, 1013, 8077, 110), (66, 8074, 1013, 8072, 8073), (68, 8090, 1013, 8089, 112), (69, 8086, 1013, 8084, 8085), (70, 8097, 1013, 8095, 8096), (71, 8101, 1013, 8099, 8100), (72, 8111, 1013, 8110, 113), (73, 8116, 1013, 8115, 114), (74, 8106, 1013, 8104, 8105), (75, 8120, 1013, 8118, 8119), (76, 8128, 1013, 8127, 115), (77, 8124, 1013, 8122, 8123), (78, 8137, 1013, 8136, 116), (79, 8132, 1013, 8130, 8131), (80, 8142, 1013, 8140, 8141), (81, 8146, 1013, 8144, 8145), (82, 8150, 1013, 8148, 8149), (83, 8154, 1013, 8152, 8153), (84, 8162, 1013, 8161, 117), (85, 8158, 1013, 8156, 8157)]
theorem pn_MV_code2 : ∀ q ∈ pn_MV2, pn_at q.2.1 = some (Cond.code (pn_i q.1).2.1 (pn_i q.1).2.2.1 (pn_i q.1).2.2.2.1 (pn_i q.1).2.2.2.2.1) := by decide +kernel
def pn_MV3 : List (Nat × Nat × Nat × Nat × Nat) := [(86, 8166, 1013, 8164, 8165), (87, 8170, 1013, 8168, 8169), (88, 8178, 1013, 8177, 118), (89, 8174, 1013, 8172, 8173), (90, 8182, 1013, 8180, 8181), (91, 8186, 1013, 8184, 8185), (92, 8190, 1013, 8188, 8189), (93, 8194, 1013, 8192, 8193), (94, 8200, 1013, 8198, 8199), (95, 8216, 1013, 8215, 121), (96, 8208, 1013, 8207, 119), (97, 8212, 1013, 8211, 120), (98, 8204, 1013, 8202, 8203), (99, 8220, 1013, 8218, 8219), (100, 8224, 1013, 8222, 8223), (101, 8229, 1013, 8227, 8228), (103, 9001, 1013, 9000, 123), (104, 8237, 1013, 8236, 122), (105, 8233, 1013, 8231, 8232), (106, 9016, 1013, 9015, 125), (107, 9012, 1013, 9011, 124), (108, 9008, 1013, 9006, 9007), (109, 9020, 1013, 9018, 9019), (110, 9029, 1013, 9028, 126), (111, 9033, 1013, 9032, 127)]
theorem pn_MV_code3 : ∀ q ∈ pn_MV3, pn_at q.2.1 = some (Cond.code (pn_i q.1).2.1 (pn_i q.1).2.2.1 (pn_i q.1).2.2.2.1 (pn_i q.1).2.2.2.2.1) := by decide +kernel
def pn_MV4 : List (Nat × Nat × Nat × Nat × Nat) := [(112, 9024, 1013, 9022, 9023), (113, 9037, 1013, 9035, 9036), (114, 9050, 1013, 9049, 129), (115, 9054, 1013, 9053, 130), (116, 9046, 1013, 9045, 128), (117, 9041, 1013, 9039, 9040), (118, 9058, 1013, 9057, 131), (119, 9067, 1013, 9066, 132), (120, 9062, 1013, 9060, 9061), (121, 9079, 1013, 9078, 134), (122, 9083, 1013, 9082, 135), (123, 9075, 1013, 9074, 133), (124, 9071, 1013, 9069, 9070), (125, 9087, 1013, 9085, 9086), (126, 9092, 1013, 9090, 9091), (128, 9096, 1013, 9094, 9095), (129, 9101, 1013, 9099, 9100), (130, 9111, 1013, 9109, 9110), (131, 9115, 1013, 9113, 9114), (132, 9119, 1013, 9117, 9118), (133, 9127, 1013, 9126, 136), (134, 9123, 1013, 9121, 9122), (1002, 3191, 1002, 3189, 3190), (1003, 2155, 1002, 2153, 2154), (1004, 4154, 1002, 4152, 4153)]
theorem pn_MV_code4 : ∀ q ∈ pn_MV4, pn_at q.2.1 = some (Cond.code (pn_i q.1).2.1 (pn_i q.1).2.2.1 (pn_i q.1).2.2.2.1 (pn_i q.1).2.2.2.2.1) := by decide +kernel
def pn_MV5 : List (Nat × Nat × Nat × Nat × Nat) := [(1005, 4220, 1002, 4218, 4219), (2002, 4030, 1011, 4028, 4029), (2003, 4034, 1011, 4032, 4033), (2004, 4038, 1011, 4037, 28), (2005, 4137, 1011, 4135, 4136), (2006, 4183, 1011, 4181, 4182), (2007, 4189, 1011, 4188, 39), (2008, 4146, 1011, 4145, 37), (2009, 4042, 1011, 4041, 29), (2010, 4046, 1011, 4045, 30), (2011, 4092, 1011, 4091, 34), (2012, 4106, 1011, 4105, 36), (2013, 4100, 1011, 4099, 35), (3002, 5025, 1006, 5023, 5024), (3003, 5037, 1006, 5035, 5036), (3004, 5033, 1006, 5031, 5032), (3005, 5111, 1006, 5109, 5110), (3006, 5119, 1006, 5117, 5118), (3007, 5029, 1006, 5027, 5028), (4002, 5187, 1008, 5185, 5186), (4003, 5228, 1008, 5226, 5227), (4004, 5193, 1008, 5191, 5192), (4005, 5198, 1008, 5197, 53), (4006, 5202, 1008, 5201, 54), (4007, 5216, 1008, 5215, 57)]
theorem pn_MV_code5 : ∀ q ∈ pn_MV5, pn_at q.2.1 = some (Cond.code (pn_i q.1).2.1 (pn_i q.1).2.2.1 (pn_i q.1).2.2.2.1 (pn_i q.1).2.2.2.2.1) := by decide +kernel
def pn_MV6 : List (Nat × Nat × Nat × Nat × Nat) := [(4008, 5220, 1008, 5219, 58), (4009, 5208, 1008, 5207, 55), (4010, 5212, 1008, 5211, 56), (5002, 6069, 1010, 6067, 6068), (5003, 6074, 1010, 6073, 63), (5004, 6080, 1010, 6079, 64), (5006, 6089, 1010, 6087, 6088), (6002, 6006, 1009, 6004, 6005), (6003, 6010, 1009, 6009, 59), (6004, 6015, 1009, 6014, 60), (6005, 6044, 1009, 6042, 6043), (6006, 6024, 1009, 6022, 6023), (6007, 6033, 1009, 6032, 62), (6008, 6028, 1009, 6027, 61), (7002, 6111, 1012, 6109, 6110), (7003, 6100, 1012, 6098, 6099), (7004, 6116, 1012, 6114, 6115), (7005, 6143, 1012, 6141, 6142), (7006, 6121, 1012, 6120, 65), (7007, 6129, 1012, 6128, 66), (8002, 4067, 1007, 4065, 4066), (8003, 4077, 1007, 4076, 31), (8004, 4082, 1007, 4081, 32), (8005, 4086, 1007, 4085, 33), (8006, 5136, 1007, 5134, 5135)]
theorem pn_MV_code6 : ∀ q ∈ pn_MV6, pn_at q.2.1 = some (Cond.code (pn_i q.1).2.1 (pn_i q.1).2.2.1 (pn_i q.1).2.2.2.1 (pn_i q.1).2.2.2.2.1) := by decide +kernel
def pn_MV7 : List (Nat × Nat × Nat × Nat × Nat) := [(8007, 5142, 1007, 5141, 46), (8008, 5151, 1007, 5149, 5150), (8009, 5155, 1007, 5154, 47), (8010, 5163, 1007, 5162, 49), (8011, 5175, 1007, 5174, 52), (8012, 5159, 1007, 5158, 48), (8013, 5167, 1007, 5166, 50), (8014, 5171, 1007, 5170, 51), (9002, 2133, 1005, 2131, 2132), (9003, 2137, 1005, 2135, 2136), (9004, 2145, 1005, 2143, 2144), (9005, 2171, 1005, 2170, 0), (9006, 2179, 1005, 2178, 2), (9007, 2175, 1005, 2174, 1), (9008, 2187, 1005, 2186, 4), (9009, 2191, 1005, 2190, 5), (9010, 2183, 1005, 2182, 3), (9011, 2195, 1005, 2194, 6), (9012, 2199, 1005, 2198, 7), (9013, 3022, 1005, 3021, 9), (9014, 2204, 1005, 2203, 8), (9015, 3094, 1005, 3093, 11), (9016, 3098, 1005, 3097, 12), (9017, 3176, 1005, 3175, 26), (9018, 3102, 1005, 3101, 13)]
theorem pn_MV_code7 : ∀ q ∈ pn_MV7, pn_at q.2.1 = some (Cond.code (pn_i q.1).2.1 (pn_i q.1).2.2.1 (pn_i q.1).2.2.2.1 (pn_i q.1).2.2.2.2.1) := by decide +kernel
def pn_MV8 : List (Nat × Nat × Nat × Nat × Nat) := [(9019, 3144, 1005, 3143, 18), (9020, 3126, 1005, 3125, 15), (9021, 3090, 1005, 3089, 10), (9022, 3122, 1005, 3121, 14), (9023, 3136, 1005, 3135, 16), (9024, 3140, 1005, 3139, 17), (9025, 3148, 1005, 3147, 19), (9026, 3152, 1005, 3151, 20), (9027, 3156, 1005, 3155, 21), (9028, 3160, 1005, 3159, 22), (9030, 3164, 1005, 3163, 23), (9031, 3168, 1005, 3167, 24), (9032, 3172, 1005, 3171, 25), (10002, 2166, 1004, 2164, 2165), (10003, 3199, 1004, 3197, 3198), (10004, 3180, 1004, 3178, 3179), (10005, 3187, 1004, 3185, 3186), (11002, 3118, 1003, 3116, 3117), (11003, 3114, 1003, 3112, 3113), (11004, 4057, 1003, 4055, 4056), (11005, 3216, 1003, 3214, 3215), (11006, 3131, 1003, 3129, 3130), (11007, 3195, 1003, 3193, 3194), (11008, 2159, 1003, 2157, 2158), (11009, 3110, 1003, 3108, 3109)]
theorem pn_MV_code8 : ∀ q ∈ pn_MV8, pn_at q.2.1 = some (Cond.code (pn_i q.1).2.1 (pn_i q.1).2.2.1 (pn_i q.1).2.2.2.1 (pn_i q.1).2.2.2.2.1) := by decide +kernel
def pn_MV9 : List (Nat × Nat × Nat × Nat × Nat) := [(11010, 4171, 1003, 4169, 4170), (11011, 3106, 1003, 3104, 3105), (11012, 4202, 1003, 4200, 4201), (11013, 4210, 1003, 4208, 4209), (11014, 3212, 1003, 3210, 3211), (11015, 4050, 1003, 4048, 4049), (11016, 4002, 1003, 4000, 4001), (11017, 4006, 1003, 4004, 4005), (11018, 4010, 1003, 4008, 4009), (11019, 3238, 1003, 3236, 3237), (11020, 4018, 1003, 4016, 4017), (11021, 6182, 1003, 6180, 6181), (11022, 3227, 1003, 3225, 3226), (11023, 5004, 1003, 5002, 5003), (11024, 5057, 1003, 5055, 5056), (11025, 5009, 1003, 5008, 43), (11027, 3231, 1003, 3229, 3230), (11028, 5065, 1003, 5063, 5064), (11029, 5073, 1003, 5071, 5072), (11030, 5077, 1003, 5076, 45), (11031, 4072, 1003, 4070, 4071), (11032, 5090, 1003, 5088, 5089), (11033, 5098, 1003, 5096, 5097), (11034, 5102, 1003, 5100, 5101), (12002, 2129, 1001, 2127, 2128)]
theorem pn_MV_code9 : ∀ q ∈ pn_MV9, pn_at q.2.1 = some (Cond.code (pn_i q.1).2.1 (pn_i q.1).2.2.1 (pn_i q.1).2.2.2.1 (pn_i q.1).2.2.2.2.1) := by decide +kernel
def pn_MV10 : List (Nat × Nat × Nat × Nat × Nat) := [(12003, 2141, 1001, 2139, 2140), (12004, 3203, 1001, 3201, 3202), (12005, 3207, 1001, 3205, 3206), (12006, 4014, 1001, 4012, 4013), (12007, 4022, 1001, 4020, 4021), (12008, 4124, 1001, 4122, 4123), (12009, 4128, 1001, 4126, 4127), (12010, 4133, 1001, 4131, 4132), (12011, 4150, 1001, 4148, 4149), (12012, 4161, 1001, 4159, 4160), (12013, 4175, 1001, 4173, 4174), (12014, 4179, 1001, 4177, 4178), (12015, 4198, 1001, 4196, 4197), (12016, 4206, 1001, 4204, 4205), (12017, 4216, 1001, 4214, 4215), (12018, 4224, 1001, 4222, 4223), (12019, 5013, 1001, 5011, 5012), (12020, 5017, 1001, 5015, 5016), (12021, 5043, 1001, 5041, 5042), (12022, 5053, 1001, 5051, 5052), (12023, 5061, 1001, 5059, 5060), (12024, 5069, 1001, 5067, 5068), (12025, 5081, 1001, 5079, 5080), (12026, 5086, 1001, 5084, 5085), (12027, 5094, 1001, 5092, 5093)]
theorem pn_MV_code10 : ∀ q ∈ pn_MV10, pn_at q.2.1 = some (Cond.code (pn_i q.1).2.1 (pn_i q.1).2.2.1 (pn_i q.1).2.2.2.1 (pn_i q.1).2.2.2.2.1) := by decide +kernel
def pn_MV11 : List (Nat × Nat × Nat × Nat × Nat) := [(12028, 5107, 1001, 5105, 5106), (12029, 5115, 1001, 5113, 5114), (12030, 5123, 1001, 5121, 5122), (12031, 5127, 1001, 5125, 5126), (12032, 5132, 1001, 5130, 5131), (12033, 5146, 1001, 5144, 5145), (12034, 5179, 1001, 5177, 5178), (12035, 5183, 1001, 5181, 5182), (12036, 5224, 1001, 5222, 5223), (12037, 5234, 1001, 5232, 5233), (12038, 5238, 1001, 5236, 5237), (12039, 6002, 1001, 6000, 6001), (12040, 6020, 1001, 6018, 6019), (12041, 6037, 1001, 6035, 6036), (12042, 6049, 1001, 6047, 6048), (12043, 6057, 1001, 6055, 6056), (12044, 6065, 1001, 6063, 6064), (12045, 6093, 1001, 6091, 6092), (12046, 6107, 1001, 6105, 6106), (12047, 6135, 1001, 6133, 6134), (12048, 6139, 1001, 6137, 6138), (12049, 6147, 1001, 6145, 6146), (12050, 6151, 1001, 6149, 6150), (12051, 6165, 1001, 6163, 6164), (12052, 6170, 1001, 6168, 6169)]
theorem pn_MV_code11 : ∀ q ∈ pn_MV11, pn_at q.2.1 = some (Cond.code (pn_i q.1).2.1 (pn_i q.1).2.2.1 (pn_i q.1).2.2.2.1 (pn_i q.1).2.2.2.2.1) := by decide +kernel
def pn_MV12 : List (Nat × Nat × Nat × Nat × Nat) := [(12053, 6174, 1001, 6172, 6173), (12054, 6178, 1001, 6176, 6177), (12059, 4026, 1001, 4025, 27), (12060, 4193, 1001, 4192, 40), (12061, 4165, 1001, 4164, 38), (12062, 5021, 1001, 5020, 44), (12063, 4236, 1001, 4235, 42), (12065, 4232, 1001, 4231, 41), (12066, 6158, 1001, 6157, 67), (23000, 2208, 1016, 2206, 2207), (23001, 2212, 1016, 2210, 2211), (23002, 2218, 1016, 2216, 2217), (23003, 2222, 1016, 2220, 2221), (23005, 3035, 1016, 3033, 3034), (23006, 3039, 1016, 3037, 3038)]
theorem pn_MV_code12 : ∀ q ∈ pn_MV12, pn_at q.2.1 = some (Cond.code (pn_i q.1).2.1 (pn_i q.1).2.2.1 (pn_i q.1).2.2.2.1 (pn_i q.1).2.2.2.2.1) := by decide +kernel
theorem pn_MV_eq : pn_MV = pn_MV0 ++ (pn_MV1 ++ (pn_MV2 ++ (pn_MV3 ++ (pn_MV4 ++ (pn_MV5 ++ (pn_MV6 ++ (pn_MV7 ++ (pn_MV8 ++ (pn_MV9 ++ (pn_MV10 ++ (pn_MV11 ++ (pn_MV12)))))))))))) := by decide +kernel
theorem pn_MV_code : ∀ q ∈ pn_MV, pn_at q.2.1 = some (Cond.code (pn_i q.1).2.1 (pn_i q.1).2.2.1 (pn_i q.1).2.2.2.1 (pn_i q.1).2.2.2.2.1) := by
  intro q h
  rw [pn_MV_eq] at h
  simp only [List.mem_append] at h
  rcases h with h | h | h | h | h | h | h | h | h | h | h | h | h
  · exact pn_MV_code0 q h
  · exact pn_MV_code1 q h
  · exact pn_MV_code2 q h
  · exact pn_MV_code3 q h
  · exact pn_MV_code4 q h
  · exact pn_MV_code5 q h
  · exact pn_MV_code6 q h
  · exact pn_MV_code7 q h
  · exact pn_MV_code8 q h
  · exact pn_MV_code9 q h
  · exact pn_MV_code10 q h
  · exact pn_MV_code11 q h
  · exact pn_MV_code12 q h
