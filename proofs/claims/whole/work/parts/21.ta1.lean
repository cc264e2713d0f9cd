/-! fours -/
def t4f (r : Nat → Int32) (a j : Nat) : Nat := if j = a then 0 else bc 11 (tB r a &&& tB r j) * (bc 11 (tB r a &&& tB r j) - 1) / 2
theorem t4f_le (r : Nat → Int32) (a j : Nat) : t4f r a j ≤ 55 := by
  unfold t4f
  split
  · omega
  · exact bb_le (bc_le 11 _)
