-- printed by wip/whole/genext.py: texts (label 1000 + i, their bytes 1100 + i) and static rows (2000 + i)
def pn_NS : Nat := 18
def pn_xl : Nat → List Int32 := fun r => match r with
  | 1100 => [nI 32, nI 104, nI 111, nI 117, nI 115, nI 101, nI 115, nI 32, nI 100, nI 111, nI 111, nI 114, nI 32, nI 114, nI 105, nI 110, nI 103, nI 32, nI 114, nI 117, nI 108, nI 101, nI 32, nI 111, nI 114, nI 32, nI 97, nI 110, nI 100, nI 32, nI 110, nI 111, nI 116, nI 32, nI 100, nI 111, nI 111, nI 114, nI 115, nI 32, nI 116, nI 104, nI 114, nI 101, nI 101, nI 115, nI 32, nI 102, nI 111, nI 117, nI 114, nI 115, nI 32, nI 102, nI 97, nI 114, nI 32, nI 112, nI 97, nI 105, nI 114, nI 115, nI 32, nI 102, nI 101, nI 97, nI 115, nI 116, nI 32, nI 99, nI 111, nI 108, nI 111, nI 117, nI 114, nI 115, nI 32, nI 104, nI 97, nI 108, nI 118, nI 101, nI 115, nI 32]
  | 1101 => [nI 59, nI 58, nI 43, nI 45, nI 42, nI 40, nI 41, nI 91, nI 93, nI 61, nI 60, nI 62]
  | 1102 => [nI 59, nI 58, nI 43, nI 45, nI 42, nI 40, nI 41, nI 91, nI 93, nI 61, nI 60, nI 62]
  | 1103 => [nI 104, nI 111, nI 117, nI 115, nI 101, nI 115]
  | 1104 => [nI 100, nI 111, nI 111, nI 114]
  | 1105 => [nI 114, nI 105, nI 110, nI 103]
  | 1106 => [nI 114, nI 117, nI 108, nI 101]
  | 1107 => [nI 110, nI 111, nI 116]
  | 1108 => [nI 97, nI 110, nI 100]
  | 1109 => [nI 111, nI 114]
  | 1110 => [nI 100, nI 111, nI 111, nI 114, nI 115]
  | 1111 => [nI 116, nI 104, nI 114, nI 101, nI 101, nI 115]
  | 1112 => [nI 102, nI 111, nI 117, nI 114, nI 115]
  | 1113 => [nI 102, nI 97, nI 114]
  | 1114 => [nI 112, nI 97, nI 105, nI 114, nI 115]
  | 1115 => [nI 102, nI 101, nI 97, nI 115, nI 116]
  | 1116 => [nI 99, nI 111, nI 108, nI 111, nI 117, nI 114, nI 115]
  | 1117 => [nI 104, nI 97, nI 108, nI 118, nI 101, nI 115]
  | 2000 => [nI 1, nI 1, nI 2, nI 3, nI 7, nI 14]
  | 2001 => [nI 1, nI 1, nI 2, nI 3, nI 6, nI 11]
  | 2002 => [nI 0, nI 0, nI 1, nI 2, nI 4, nI 6, nI 9]
  | 2003 => [nI 0, nI 0, nI 1, nI 2, nI 3, nI 5, nI 6]
  | _ => []
def pn_xv (r j : Nat) : Int32 := (pn_xl r).getD j (nI 0)
def pn_xt : List (Nat × (Nat ⊕ (Nat × Nat))) := [(1000, .inl 23), (1001, .inl 23), (1002, .inl 23), (1003, .inl 23), (1004, .inl 23), (1005, .inl 23), (1006, .inl 23), (1007, .inl 23), (1008, .inl 23), (1009, .inl 23), (1010, .inl 23), (1011, .inl 23), (1012, .inl 23), (1013, .inl 23), (1014, .inl 23), (1015, .inl 23), (1016, .inl 23), (1017, .inl 23), (1100, .inr (10, 84)), (1101, .inr (10, 12)), (1102, .inr (10, 12)), (1103, .inr (10, 6)), (1104, .inr (10, 4)), (1105, .inr (10, 4)), (1106, .inr (10, 4)), (1107, .inr (10, 3)), (1108, .inr (10, 3)), (1109, .inr (10, 2)), (1110, .inr (10, 5)), (1111, .inr (10, 6)), (1112, .inr (10, 5)), (1113, .inr (10, 3)), (1114, .inr (10, 5)), (1115, .inr (10, 5)), (1116, .inr (10, 7)), (1117, .inr (10, 6)), (2000, .inr (11, 6)), (2001, .inr (11, 6)), (2002, .inr (11, 7)), (2003, .inr (11, 7))]
/-- ldc of texts: class, entry, text, number -/
def pn_KS : List (Nat × Nat × String × Nat) := [(0, 85, " houses door ring rule or and not doors threes fours far pairs feast colours halves ", 0), (0, 123, ";:+-*()[]=<>", 1), (9, 108, ";:+-*()[]=<>", 2), (9, 115, "houses", 3), (9, 123, "doo\x72", 4), (9, 125, "ring", 5), (9, 127, "rule", 6), (9, 129, "not", 7), (9, 131, "and", 8), (9, 133, "o\x72", 9), (9, 138, "doors", 10), (9, 140, "threes", 11), (9, 142, "fours", 12), (9, 144, "fa\x72", 13), (9, 146, "pairs", 14), (9, 148, "feast", 15), (9, 150, "colours", 16), (9, 152, "halves", 17)]
/-- getstatic: place of the link, class, entry, the field's class, name, kind, value -/
def pn_GS : List (Nat × Nat × Nat × String × String × String × (Int32 ⊕ (Int64 ⊕ Option Nat))) := [(6056, 12, 333, "NoThree", "UNLIKE", "[I", .inr (.inr (some 2000))), (6058, 12, 336, "NoThree", "UNLIKE_NO_FOURS", "[I", .inr (.inr (some 2001))), (6064, 12, 339, "NoThree", "MOST_DOORS", "[I", .inr (.inr (some 2002))), (6066, 12, 342, "NoThree", "MOST_DOORS_NO_FOURS", "[I", .inr (.inr (some 2003))), (2215, 23, 38, "java/lang/String", "COMPACT_STRINGS", "Z", .inl (nI 1))]
theorem pn_GS_ok : ∀ q ∈ pn_GS, pn_at q.1 = some (Cond.fieldLink (pn_own q.2.1) q.2.2.1 q.2.2.2.1 q.2.2.2.2.1 q.2.2.2.2.2.1) := by decide +kernel
/-- the one static of which nothing is said: place of its link, class, entry -/
def pn_OQ : Nat × Nat × Nat := (2231, 23, 1053)
theorem pn_OQ_ok : pn_at pn_OQ.1 = some (Cond.fieldLink (pn_own pn_OQ.2.1) pn_OQ.2.2 "jdk/internal/util/Preconditions" "SIOOBE_FORMATTER" "Ljava/util/function/BiFunction;") := by decide +kernel
/-- fields of a text: place, class, entry, slot, name, kind -/
def pn_FX : List (Nat × Nat × Nat × Nat × String × String) := [(9135, 23, 9, 0, "value", "[B"), (9136, 23, 15, 1, "coder", "B")]
theorem pn_FX_ok : ∀ q ∈ pn_FX, pn_at q.1 = some (Cond.fieldLink (pn_own q.2.1) q.2.2.1 "java/lang/String" q.2.2.2.2.1 q.2.2.2.2.2) := by decide +kernel
