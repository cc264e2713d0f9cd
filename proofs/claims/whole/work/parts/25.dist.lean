/-! how far: what the numbers say -/
/-- the set of those below j of whom p says so -/
def bs (p : Nat → Bool) : Nat → Nat
  | 0 => 0
  | j + 1 => bs p j ||| (if p j then 2 ^ j else 0)
theorem bs_tb {p : Nat → Bool} {i : Nat} : ∀ {j : Nat}, (bs p j).testBit i = (decide (i < j) && p i) := by
  intro j
  induction j with
  | zero => simp [bs]
  | succ j ih =>
    simp only [bs, Nat.testBit_or, ih]
    by_cases hp : p j = true
    · rw [if_pos hp, Nat.testBit_two_pow]
      by_cases hij : i = j
      · subst hij; simp [hp]
      · have : ¬ j = i := fun q => hij q.symm
        by_cases hlt : i < j
        · simp [hlt, this, show i < j + 1 by omega]
        · simp [hlt, this, show ¬ i < j + 1 by omega]
    · rw [if_neg hp]
      by_cases hij : i = j
      · subst hij; simp [hp]
      · by_cases hlt : i < j
        · simp [hlt, show i < j + 1 by omega]
        · simp [hlt, show ¬ i < j + 1 by omega]
theorem bs_lt {p : Nat → Bool} : ∀ {j : Nat}, j ≤ 11 → bs p j < 2048 := by
  intro j
  induction j with
  | zero => intro _; simp [bs]
  | succ j ih =>
    intro h
    refine or_lt (ih (by omega)) ?_
    split
    · exact pw_lt (by omega)
    · omega
theorem bs_congr {p q : Nat → Bool} : ∀ {j : Nat}, (∀ i, i < j → p i = q i) → bs p j = bs q j := by
  intro j
  induction j with
  | zero => intro _; rfl
  | succ j ih => intro h; simp only [bs]; rw [ih (fun i hi => h i (by omega)), h j (by omega)]
theorem bs_eq {p : Nat → Bool} {s n : Nat} (h1 : ∀ i, i < n → s.testBit i = p i) (h2 : ∀ i, n ≤ i → s.testBit i = false) : bs p n = s := by
  apply Nat.eq_of_testBit_eq
  intro i
  rw [bs_tb]
  by_cases hi : i < n
  · simp [hi, h1 i hi]
  · simp [hi, h2 i (by omega)]
/-- counting bits -/
theorem bc_or {a b : Nat} (h : ∀ i, ¬ (a.testBit i = true ∧ b.testBit i = true)) : ∀ j, bc j (a ||| b) = bc j a + bc j b := by
  intro j
  induction j with
  | zero => rfl
  | succ j ih =>
    simp only [bc, ih, Nat.testBit_or]
    have := h j
    cases ha : a.testBit j <;> cases hb : b.testBit j <;> simp_all <;> omega
theorem bc_pos {b : Nat} (hb : b < 2048) (h : ¬ b = 0) : 1 ≤ bc 11 b := by
  rcases Nat.eq_zero_or_pos (bc 11 b) with q | q
  · exfalso
    apply h
    have key : ∀ j, bc j b = 0 → ∀ i, i < j → b.testBit i = false := by
      intro j
      induction j with
      | zero => intro _ i hi; omega
      | succ j ih =>
        intro hz i hi
        simp only [bc] at hz
        by_cases hij : i = j
        · subst hij
          cases hbi : b.testBit i with
          | false => rfl
          | true => rw [hbi] at hz; simp at hz
        · exact ih (by omega) i (by omega)
    apply Nat.eq_of_testBit_eq
    intro i
    rw [Nat.zero_testBit]
    by_cases hi : i < 11
    · exact key 11 q i hi
    · exact tb_big hb (by omega)
  · exact q
section
variable {nb : Nat → Nat} {n a : Nat}
theorem rc_cnt (ha : a < 11) (h : ∀ j, j < n → nb j < 2048) : ∀ M, (∀ i, i < M → ¬ ly nb n a (i + 1) = 0) → M + 1 ≤ bc 11 (rc nb n M (2 ^ a)) := by
  intro M
  induction M with
  | zero =>
    intro _
    exact bc_pos (pw_lt ha) (ly_0 nb n a)
  | succ M ih =>
    intro hM
    have h1 := ih (fun i hi => hM i (by omega))
    rw [← rc_next ha h M, bc_or]
    · have := bc_pos (ly_lt ha h (M + 1)) (hM M (by omega))
      omega
    · rintro i ⟨q1, q2⟩
      simp only [ly] at q2
      rw [nd_tb (rc_lt (pw_lt ha) h (M + 1)), q1] at q2
      simp at q2
/-- all levels are found in at most ten steps -/
theorem ly_10 {M : Nat} (ha : a < 11) (h : ∀ j, j < n → nb j < 2048) (hM : ∀ i, i < M → ¬ ly nb n a (i + 1) = 0) : M ≤ 10 := by
  have h1 := rc_cnt ha h M hM
  have h2 := bc_le 11 (rc nb n M (2 ^ a))
  omega
theorem rc_stay {M : Nat} (ha : a < 11) (h : ∀ j, j < n → nb j < 2048) (hM : ly nb n a (M + 1) = 0) : ∀ i, rc nb n (M + i) (2 ^ a) = rc nb n M (2 ^ a) := by
  intro i
  have h1 : rc nb n (M + 1) (2 ^ a) = rc nb n M (2 ^ a) := by
    have := rc_next ha h M
    rw [hM, Nat.or_zero] at this
    exact this.symm
  induction i with
  | zero => rfl
  | succ i ih =>
    show rc nb n (M + i) (2 ^ a) ||| ar nb n (rc nb n (M + i) (2 ^ a)) = _
    rw [ih]
    exact h1
theorem rc_11 {M : Nat} (ha : a < 11) (h : ∀ j, j < n → nb j < 2048) (h0 : ly nb n a (M + 1) = 0) (hM : ∀ i, i < M → ¬ ly nb n a (i + 1) = 0) : rc nb n M (2 ^ a) = rc nb n 11 (2 ^ a) := by
  have := ly_10 ha h hM
  have h1 := rc_stay ha h h0 (11 - M)
  rw [show M + (11 - M) = 11 by omega] at h1
  exact h1.symm
/-- the numbers and the levels -/
theorem fd_99 (ha : a < 11) (h : ∀ j, j < n → nb j < 2048) {x : Nat} : ∀ {M : Nat}, M < 99 → (fd nb n a M x < 99 ↔ (rc nb n M (2 ^ a)).testBit x = true) := by
  intro M
  induction M with
  | zero =>
    intro _
    simp only [fd, rc, Nat.testBit_two_pow]
    by_cases hx : x = a
    · simp [hx]
    · have : ¬ a = x := fun q => hx q.symm
      simp [hx, this]
  | succ M ih =>
    intro hM
    rw [← rc_next ha h M, Nat.testBit_or]
    simp only [fd]
    by_cases hb : (ly nb n a (M + 1)).testBit x = true
    · simp [hb]; omega
    · simp [hb, ih (by omega)]
theorem fd_eq (ha : a < 11) (h : ∀ j, j < n → nb j < 2048) {x i : Nat} (hi : i < 99) : ∀ {M : Nat}, M < 99 → (fd nb n a M x = i ↔ i ≤ M ∧ (ly nb n a i).testBit x = true) := by
  intro M
  induction M with
  | zero =>
    intro _
    simp only [fd]
    by_cases hx : x = a
    · subst hx
      rw [if_pos rfl]
      constructor
      · intro q; subst q; exact ⟨by omega, by simp [ly]⟩
      · intro q; omega
    · rw [if_neg hx]
      constructor
      · intro q; omega
      · rintro ⟨q1, q2⟩
        have : i = 0 := by omega
        subst this
        simp only [ly, Nat.testBit_two_pow, decide_eq_true_eq] at q2
        exact absurd q2.symm hx
  | succ M ih =>
    intro hM
    simp only [fd]
    by_cases hb : (ly nb n a (M + 1)).testBit x = true
    · rw [if_pos hb]
      constructor
      · intro q; subst q; exact ⟨by omega, hb⟩
      · rintro ⟨q1, q2⟩
        rcases Nat.lt_or_ge i (M + 1) with q | q
        · exfalso
          have e1 := (fd_99 ha h (x := x) (M := M) (by omega)).mp (by
            have := (ih (by omega)).mpr ⟨by omega, q2⟩
            omega)
          simp only [ly] at hb
          rw [nd_tb (rc_lt (pw_lt ha) h (M + 1)), e1] at hb
          simp at hb
        · omega
    · rw [if_neg hb, ih (by omega)]
      constructor
      · rintro ⟨q1, q2⟩; exact ⟨by omega, q2⟩
      · rintro ⟨q1, q2⟩
        refine ⟨?_, q2⟩
        rcases Nat.lt_or_ge M i with q | q
        · have : i = M + 1 := by omega
          subst this; exact absurd q2 hb
        · exact q
theorem fd_le (x : Nat) : ∀ {M : Nat}, M < 99 → fd nb n a M x ≤ 99 := by
  intro M
  induction M with
  | zero => intro _; simp only [fd]; split <;> omega
  | succ M ih => intro hM; simp only [fd]; split; omega; exact ih (by omega)
end
