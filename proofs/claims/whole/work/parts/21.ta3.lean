/-! fours 3 -/
theorem t4_step {r : Nat → Int32} {a j : Nat} (ha : tB r a < 2048) (hja : ¬ j = a) : nI (sm (t4f r a) j) + bcI 11 (nI (tB r a) &&& nI (tB r j)) * (bcI 11 (nI (tB r a) &&& nI (tB r j)) - nI 1) / nI 2 = nI (sm (t4f r a) (j + 1)) := by
  have h31 : tB r a &&& tB r j < 2048 := and_lt ha
  rw [fa_and, bcI_eq (by omega) (by omega)]
  have hb := bc_le 11 (tB r a &&& tB r j)
  have e : sm (t4f r a) (j + 1) = sm (t4f r a) j + bc 11 (tB r a &&& tB r j) * (bc 11 (tB r a &&& tB r j) - 1) / 2 := by simp [sm, t4f, hja]
  rw [e]
  clear e h31
  generalize bc 11 (tB r a &&& tB r j) = b at hb
  have h1 : b * (b - 1) ≤ 11 * 10 := Nat.mul_le_mul hb (by omega)
  rw [ni_bb hb, ni_divL (Nat.lt_of_le_of_lt h1 (by omega)) (by omega) (by omega), nI_add]
