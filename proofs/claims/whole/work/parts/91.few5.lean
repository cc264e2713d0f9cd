/-! the most doors: no more than so many -/
theorem most_F : allB (fun d => Nat.ble (pk15 d) 6 || (hasT d || hasF d)) 32768 = true := by decide +kernel
theorem most_n : ∀ n, n < 6 → allB (fun d => Nat.ble (pk15 d) (dT false n) || hasT d) (2 ^ ofs n) = true ∧ allB (fun d => Nat.ble (pk15 d) (dT true n) || (hasT d || hasF d)) (2 ^ ofs n) = true := by decide +kernel
theorem dm_pk {n d : Nat} (hn : n ≤ 6) (hd : d < 2 ^ ofs n) : dm n (gD n d) = bc 15 d := by
  have hh : ∀ k, ofs n ≤ k → d.testBit k = false := fun k hk => by
    cases q : d.testBit k with
    | false => rfl
    | true => have := tb_lt hd q; omega
  have g : ∀ a b, (gD n d a).testBit b = (decide (a ≠ b ∧ (max a b < n ∨ (max a b = n ∧ min a b < 0))) && d.testBit (eb a b)) := fun a b => gC_tb hn (Or.inr rfl) a b
  unfold dm
  obtain rfl | rfl | rfl | rfl | rfl | rfl | rfl : n = 0 ∨ n = 1 ∨ n = 2 ∨ n = 3 ∨ n = 4 ∨ n = 5 ∨ n = 6 := by omega
  · have r : bc 15 d = 0 := by simp [bc, hh 0 (by decide), hh 1 (by decide), hh 2 (by decide), hh 3 (by decide), hh 4 (by decide), hh 5 (by decide), hh 6 (by decide), hh 7 (by decide), hh 8 (by decide), hh 9 (by decide), hh 10 (by decide), hh 11 (by decide), hh 12 (by decide), hh 13 (by decide), hh 14 (by decide)]
    rw [r]
    simp [sm]
  · have r0 : bc 11 (gD 1 d 0) = 0 := by simp [bc, g, eb, ofs]
    have r : bc 15 d = 0 := by simp [bc, hh 0 (by decide), hh 1 (by decide), hh 2 (by decide), hh 3 (by decide), hh 4 (by decide), hh 5 (by decide), hh 6 (by decide), hh 7 (by decide), hh 8 (by decide), hh 9 (by decide), hh 10 (by decide), hh 11 (by decide), hh 12 (by decide), hh 13 (by decide), hh 14 (by decide)]
    rw [r]
    simp [sm, r0]
  · have r0 : bc 11 (gD 2 d 0) = (d.testBit 0).toNat := by simp [bc, g, eb, ofs]
    have r1 : bc 11 (gD 2 d 1) = (d.testBit 0).toNat := by simp [bc, g, eb, ofs]
    have r : bc 15 d = (d.testBit 0).toNat := by simp [bc, hh 1 (by decide), hh 2 (by decide), hh 3 (by decide), hh 4 (by decide), hh 5 (by decide), hh 6 (by decide), hh 7 (by decide), hh 8 (by decide), hh 9 (by decide), hh 10 (by decide), hh 11 (by decide), hh 12 (by decide), hh 13 (by decide), hh 14 (by decide)]
    rw [r]
    simp only [sm, r0, r1]
    omega
  · have r0 : bc 11 (gD 3 d 0) = (d.testBit 0).toNat + (d.testBit 1).toNat := by simp [bc, g, eb, ofs]
    have r1 : bc 11 (gD 3 d 1) = (d.testBit 0).toNat + (d.testBit 2).toNat := by simp [bc, g, eb, ofs]
    have r2 : bc 11 (gD 3 d 2) = (d.testBit 1).toNat + (d.testBit 2).toNat := by simp [bc, g, eb, ofs]
    have r : bc 15 d = (d.testBit 0).toNat + (d.testBit 1).toNat + (d.testBit 2).toNat := by simp [bc, hh 3 (by decide), hh 4 (by decide), hh 5 (by decide), hh 6 (by decide), hh 7 (by decide), hh 8 (by decide), hh 9 (by decide), hh 10 (by decide), hh 11 (by decide), hh 12 (by decide), hh 13 (by decide), hh 14 (by decide)]
    rw [r]
    simp only [sm, r0, r1, r2]
    omega
  · have r0 : bc 11 (gD 4 d 0) = (d.testBit 0).toNat + (d.testBit 1).toNat + (d.testBit 3).toNat := by simp [bc, g, eb, ofs]
    have r1 : bc 11 (gD 4 d 1) = (d.testBit 0).toNat + (d.testBit 2).toNat + (d.testBit 4).toNat := by simp [bc, g, eb, ofs]
    have r2 : bc 11 (gD 4 d 2) = (d.testBit 1).toNat + (d.testBit 2).toNat + (d.testBit 5).toNat := by simp [bc, g, eb, ofs]
    have r3 : bc 11 (gD 4 d 3) = (d.testBit 3).toNat + (d.testBit 4).toNat + (d.testBit 5).toNat := by simp [bc, g, eb, ofs]
    have r : bc 15 d = (d.testBit 0).toNat + (d.testBit 1).toNat + (d.testBit 2).toNat + (d.testBit 3).toNat + (d.testBit 4).toNat + (d.testBit 5).toNat := by simp [bc, hh 6 (by decide), hh 7 (by decide), hh 8 (by decide), hh 9 (by decide), hh 10 (by decide), hh 11 (by decide), hh 12 (by decide), hh 13 (by decide), hh 14 (by decide)]
    rw [r]
    simp only [sm, r0, r1, r2, r3]
    omega
  · have r0 : bc 11 (gD 5 d 0) = (d.testBit 0).toNat + (d.testBit 1).toNat + (d.testBit 3).toNat + (d.testBit 6).toNat := by simp [bc, g, eb, ofs]
    have r1 : bc 11 (gD 5 d 1) = (d.testBit 0).toNat + (d.testBit 2).toNat + (d.testBit 4).toNat + (d.testBit 7).toNat := by simp [bc, g, eb, ofs]
    have r2 : bc 11 (gD 5 d 2) = (d.testBit 1).toNat + (d.testBit 2).toNat + (d.testBit 5).toNat + (d.testBit 8).toNat := by simp [bc, g, eb, ofs]
    have r3 : bc 11 (gD 5 d 3) = (d.testBit 3).toNat + (d.testBit 4).toNat + (d.testBit 5).toNat + (d.testBit 9).toNat := by simp [bc, g, eb, ofs]
    have r4 : bc 11 (gD 5 d 4) = (d.testBit 6).toNat + (d.testBit 7).toNat + (d.testBit 8).toNat + (d.testBit 9).toNat := by simp [bc, g, eb, ofs]
    have r : bc 15 d = (d.testBit 0).toNat + (d.testBit 1).toNat + (d.testBit 2).toNat + (d.testBit 3).toNat + (d.testBit 4).toNat + (d.testBit 5).toNat + (d.testBit 6).toNat + (d.testBit 7).toNat + (d.testBit 8).toNat + (d.testBit 9).toNat := by simp [bc, hh 10 (by decide), hh 11 (by decide), hh 12 (by decide), hh 13 (by decide), hh 14 (by decide)]
    rw [r]
    simp only [sm, r0, r1, r2, r3, r4]
    omega
  · have r0 : bc 11 (gD 6 d 0) = (d.testBit 0).toNat + (d.testBit 1).toNat + (d.testBit 3).toNat + (d.testBit 6).toNat + (d.testBit 10).toNat := by simp [bc, g, eb, ofs]
    have r1 : bc 11 (gD 6 d 1) = (d.testBit 0).toNat + (d.testBit 2).toNat + (d.testBit 4).toNat + (d.testBit 7).toNat + (d.testBit 11).toNat := by simp [bc, g, eb, ofs]
    have r2 : bc 11 (gD 6 d 2) = (d.testBit 1).toNat + (d.testBit 2).toNat + (d.testBit 5).toNat + (d.testBit 8).toNat + (d.testBit 12).toNat := by simp [bc, g, eb, ofs]
    have r3 : bc 11 (gD 6 d 3) = (d.testBit 3).toNat + (d.testBit 4).toNat + (d.testBit 5).toNat + (d.testBit 9).toNat + (d.testBit 13).toNat := by simp [bc, g, eb, ofs]
    have r4 : bc 11 (gD 6 d 4) = (d.testBit 6).toNat + (d.testBit 7).toNat + (d.testBit 8).toNat + (d.testBit 9).toNat + (d.testBit 14).toNat := by simp [bc, g, eb, ofs]
    have r5 : bc 11 (gD 6 d 5) = (d.testBit 10).toNat + (d.testBit 11).toNat + (d.testBit 12).toNat + (d.testBit 13).toNat + (d.testBit 14).toNat := by simp [bc, g, eb, ofs]
    have r : bc 15 d = (d.testBit 0).toNat + (d.testBit 1).toNat + (d.testBit 2).toNat + (d.testBit 3).toNat + (d.testBit 4).toNat + (d.testBit 5).toNat + (d.testBit 6).toNat + (d.testBit 7).toNat + (d.testBit 8).toNat + (d.testBit 9).toNat + (d.testBit 10).toNat + (d.testBit 11).toNat + (d.testBit 12).toNat + (d.testBit 13).toNat + (d.testBit 14).toNat := by simp [bc]
    rw [r]
    simp only [sm, r0, r1, r2, r3, r4, r5]
    omega
def dW (z : Bool) (n : Nat) : Nat := if z then [0, 0, 1, 3, 11, 236, 1260].getD n 0 else [0, 0, 1, 3, 30, 222, 7672].getD n 0
theorem dW_ok : ∀ n, n < 7 → ∀ z : Bool, dW z n < 2 ^ ofs n ∧ pln n (gE n (dW z n)) z n = true ∧ bc 15 (dW z n) = dT z n := by decide +kernel
theorem dm_most {n d : Nat} {z : Bool} (hn : n ≤ 6) (hd : d < 2 ^ ofs n) (hp : pln n (gD n d) z n = true) : dm n (gD n d) ≤ dT z n := by
  have h1 := no_T hn hd hp
  have h15 : d < 2 ^ 15 := Nat.lt_of_lt_of_le hd (Nat.pow_le_pow_right (by omega) (ofs_t n (by omega)).2)
  rw [dm_pk hn hd, ← pk_bc h15]
  cases z with
  | false =>
    have : (Nat.ble (pk15 d) (dT false n) || hasT d) = true := by
      by_cases h6 : n = 6
      · subst h6; exact allB_at most_T d h15
      · exact allB_at (most_n n (by omega)).1 d hd
    rw [h1, Bool.or_false] at this
    exact Nat.le_of_ble_eq_true this
  | true =>
    have h2 := no_F hn hd hp
    have : (Nat.ble (pk15 d) (dT true n) || (hasT d || hasF d)) = true := by
      by_cases h6 : n = 6
      · subst h6; exact allB_at most_F d h15
      · exact allB_at (most_n n (by omega)).2 d hd
    rw [h1, h2, Bool.or_false, Bool.or_false] at this
    exact Nat.le_of_ble_eq_true this
/-- the most so far -/
def mxd (n : Nat) (z : Bool) : Nat → Nat
  | 0 => 0
  | d + 1 => if decide (mxd n z d < dm n (gD n d)) && pln n (gD n d) z n then dm n (gD n d) else mxd n z d
theorem mxd_all {n : Nat} (hn : n ≤ 6) (z : Bool) : mxd n z (2 ^ ofs n) = dT z n := by
  have up : ∀ m, m ≤ 2 ^ ofs n → mxd n z m ≤ dT z n := by
    intro m
    induction m with
    | zero => intro _; exact Nat.zero_le _
    | succ m ih =>
      intro hm
      simp only [mxd]
      split
      · rename_i h
        rw [Bool.and_eq_true] at h
        exact dm_most hn (by omega) h.2
      · exact ih (by omega)
  have lo : ∀ m d, d < m → pln n (gD n d) z n = true → dm n (gD n d) ≤ mxd n z m := by
    intro m
    induction m with
    | zero => intro d hd; omega
    | succ m ih =>
      intro d hd hp
      simp only [mxd]
      by_cases q : d = m
      · subst q
        by_cases h : mxd n z d < dm n (gD n d)
        · rw [if_pos (by rw [decide_eq_true h, hp]; rfl)]; exact Nat.le_refl _
        · rw [if_neg (by rw [decide_eq_false h, Bool.false_and]; exact Bool.false_ne_true)]; omega
      · have := ih d (by omega) hp
        split
        · rename_i h
          rw [Bool.and_eq_true, decide_eq_true_eq] at h
          omega
        · exact this
  have h1 := up _ (Nat.le_refl _)
  obtain ⟨w1, w2, w3⟩ := dW_ok n (by omega) z
  have h2 := lo _ _ w1 (by rw [gE_eq hn]; exact w2)
  rw [dm_pk hn w1, w3] at h2
  omega
