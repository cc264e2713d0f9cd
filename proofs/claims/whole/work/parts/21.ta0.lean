/-! the model: what is asked of a town -/
theorem ni_bb {b : Nat} (h : b ≤ 11) : nI b * (nI b - nI 1) = nI (b * (b - 1)) := by
  rcases Nat.eq_zero_or_pos b with rfl | h0
  · decide +kernel
  · rw [pk_sub h0, pk_mul]
theorem bb_le {b : Nat} (h : b ≤ 11) : b * (b - 1) / 2 ≤ 55 := by
  have h1 : b * (b - 1) ≤ 11 * 10 := Nat.mul_le_mul h (by omega)
  omega
