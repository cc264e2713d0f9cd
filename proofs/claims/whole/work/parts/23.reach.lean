/-! sets of houses as bits; what is reached -/
theorem bt_nI (n i : Nat) : bt (nI n) i = (decide (i < 32) && n.testBit i) := by
  have : (nI n).toBitVec = BitVec.ofNat 32 n := rfl
  simp [bt, this, BitVec.getLsbD_ofNat]
def nd (t s : Nat) : Nat := t &&& (s ^^^ 2047)
theorem tb_big {t i : Nat} (ht : t < 2048) (hi : 11 ≤ i) : t.testBit i = false := Nat.testBit_lt_two_pow (Nat.lt_of_lt_of_le ht (Nat.pow_le_pow_right (n := 2) (by omega) hi))
theorem tb_2047 : ∀ i, i < 11 → (2047 : Nat).testBit i = true := by decide
theorem nd_tb {t s : Nat} (ht : t < 2048) (j : Nat) : (nd t s).testBit j = (t.testBit j && !s.testBit j) := by
  unfold nd
  rw [Nat.testBit_and, Nat.testBit_xor]
  by_cases hj : j < 11
  · rw [tb_2047 j hj]; cases s.testBit j <;> simp
  · rw [tb_big ht (by omega)]; simp
theorem nd_lt {t s : Nat} (ht : t < 2048) : nd t s < 2048 := and_lt ht
theorem ni_nd {t s : Nat} (ht : t < 2048) : nI t &&& (nI s ^^^ (-1)) = nI (nd t s) := by
  apply b_ext
  intro i hi
  rw [b_and, b_xor, b_m1 i hi, bt_nI, bt_nI, bt_nI, nd_tb ht]
  simp [hi]
/-- all neighbours of those of a set below n -/
def ar (nb : Nat → Nat) : Nat → Nat → Nat
  | 0, _ => 0
  | j + 1, s => ar nb j s ||| (if s.testBit j then nb j else 0)
theorem ar_lt {nb : Nat → Nat} {s : Nat} : ∀ {n : Nat}, (∀ h, h < n → nb h < 2048) → ar nb n s < 2048 := by
  intro n
  induction n with
  | zero => intro _; simp [ar]
  | succ n ih =>
    intro h
    refine or_lt (ih fun a ha => h a (by omega)) ?_
    split
    · exact h n (by omega)
    · omega
theorem ar_tb {nb : Nat → Nat} {s h : Nat} : ∀ {n : Nat}, (ar nb n s).testBit h = true ↔ ∃ j, j < n ∧ s.testBit j = true ∧ (nb j).testBit h = true := by
  intro n
  induction n with
  | zero => simp [ar]
  | succ n ih =>
    simp only [ar, Nat.testBit_or, Bool.or_eq_true, ih]
    constructor
    · rintro (⟨j, h1, h2, h3⟩ | h1)
      · exact ⟨j, by omega, h2, h3⟩
      · by_cases hs : s.testBit n = true
        · rw [if_pos hs] at h1; exact ⟨n, by omega, hs, h1⟩
        · rw [if_neg hs] at h1; simp at h1
    · rintro ⟨j, h1, h2, h3⟩
      by_cases hj : j = n
      · subst hj; right; rw [if_pos h2]; exact h3
      · left; exact ⟨j, by omega, h2, h3⟩
/-- what is reached from a set in so many steps -/
def rc (nb : Nat → Nat) (n : Nat) : Nat → Nat → Nat
  | 0, s => s
  | m + 1, s => rc nb n m s ||| ar nb n (rc nb n m s)
theorem rc_lt {nb : Nat → Nat} {n s : Nat} (hs : s < 2048) (h : ∀ a, a < n → nb a < 2048) : ∀ m, rc nb n m s < 2048 := by
  intro m
  induction m with
  | zero => exact hs
  | succ m ih => exact or_lt ih (ar_lt h)
theorem tb_eq {a b : Nat} (h : ∀ i, a.testBit i = true ↔ b.testBit i = true) : a = b := Nat.eq_of_testBit_eq fun i => by
  have := h i
  cases ha : a.testBit i <;> cases hb : b.testBit i <;> simp_all
/-- the level that is new at step m -/
def ly (nb : Nat → Nat) (n a : Nat) : Nat → Nat
  | 0 => 2 ^ a
  | m + 1 => nd (rc nb n (m + 1) (2 ^ a)) (rc nb n m (2 ^ a))
/-- the next level out of the last one -/
theorem ly_next {nb : Nat → Nat} {n a : Nat} (ha : a < 11) (h : ∀ j, j < n → nb j < 2048) : ∀ m, nd (ar nb n (ly nb n a m)) (rc nb n m (2 ^ a)) = ly nb n a (m + 1) := by
  intro m
  have hp := pw_lt ha
  have h1 : ar nb n (ly nb n a m) < 2048 := ar_lt h
  have h2 := rc_lt (s := 2 ^ a) hp h (m + 1)
  apply tb_eq
  intro i
  rw [show ly nb n a (m + 1) = nd (rc nb n (m + 1) (2 ^ a)) (rc nb n m (2 ^ a)) from rfl]
  rw [nd_tb h1, nd_tb h2]
  simp only [Bool.and_eq_true, Bool.not_eq_true', rc, Nat.testBit_or, Bool.or_eq_true]
  constructor
  · rintro ⟨q1, q2⟩
    refine ⟨Or.inr ?_, q2⟩
    obtain ⟨j, j1, j2, j3⟩ := ar_tb.mp q1
    refine ar_tb.mpr ⟨j, j1, ?_, j3⟩
    cases m with
    | zero => exact j2
    | succ m =>
      simp only [ly] at j2
      rw [nd_tb (rc_lt hp h (m + 1))] at j2
      simp at j2
      exact j2.1
  · rintro ⟨q1, q2⟩
    refine ⟨?_, q2⟩
    rcases q1 with q1 | q1
    · rw [q2] at q1; cases q1
    · obtain ⟨j, j1, j2, j3⟩ := ar_tb.mp q1
      refine ar_tb.mpr ⟨j, j1, ?_, j3⟩
      cases m with
      | zero => exact j2
      | succ m =>
        simp only [ly]
        rw [nd_tb (rc_lt hp h (m + 1)), j2, Bool.true_and, Bool.not_eq_true']
        cases hb : (rc nb n m (2 ^ a)).testBit j with
        | false => rfl
        | true =>
          have : (rc nb n (m + 1) (2 ^ a)).testBit i = true := by
            simp only [rc, Nat.testBit_or, Bool.or_eq_true]
            exact Or.inr (ar_tb.mpr ⟨j, j1, hb, j3⟩)
          rw [this] at q2; cases q2
theorem rc_next {nb : Nat → Nat} {n a : Nat} (ha : a < 11) (h : ∀ j, j < n → nb j < 2048) (m : Nat) : rc nb n m (2 ^ a) ||| ly nb n a (m + 1) = rc nb n (m + 1) (2 ^ a) := by
  have hp := pw_lt ha
  apply tb_eq
  intro i
  simp only [ly, Nat.testBit_or, Bool.or_eq_true]
  rw [nd_tb (rc_lt hp h (m + 1))]
  simp only [rc, Nat.testBit_or, Bool.and_eq_true, Bool.or_eq_true, Bool.not_eq_true']
  constructor
  · rintro (q | ⟨q, -⟩)
    · exact Or.inl q
    · exact q
  · rintro (q | q)
    · exact Or.inl q
    · cases hb : (rc nb n m (2 ^ a)).testBit i
      · exact Or.inr ⟨Or.inr q, rfl⟩
      · exact Or.inl rfl
theorem ly_lt {nb : Nat → Nat} {n a : Nat} (ha : a < 11) (h : ∀ j, j < n → nb j < 2048) (m : Nat) : ly nb n a m < 2048 := by
  cases m with
  | zero => exact pw_lt ha
  | succ m => exact nd_lt (rc_lt (pw_lt ha) h (m + 1))
/-- a new level makes the set greater -/
theorem rc_grow {nb : Nat → Nat} {n a m : Nat} (ha : a < 11) (h : ∀ j, j < n → nb j < 2048) (hl : ¬ ly nb n a (m + 1) = 0) : rc nb n m (2 ^ a) < rc nb n (m + 1) (2 ^ a) := by
  have h1 := rc_next ha h m
  have h2 : rc nb n m (2 ^ a) ≤ rc nb n (m + 1) (2 ^ a) := by rw [← h1]; exact Nat.left_le_or
  rcases Nat.lt_or_eq_of_le h2 with q | q
  · exact q
  · exfalso
    apply hl
    apply tb_eq
    intro i
    simp only [ly]
    rw [nd_tb (rc_lt (pw_lt ha) h (m + 1)), ← q]
    cases (rc nb n m (2 ^ a)).testBit i <;> simp
/-- how far a house is, as far as step m knows -/
def fd (nb : Nat → Nat) (n a : Nat) : Nat → Nat → Nat
  | 0, h => if h = a then 0 else 99
  | m + 1, h => if (ly nb n a (m + 1)).testBit h then m + 1 else fd nb n a m h
/-- no house has neighbours that are none -/
def tok2 (r : Nat → Int32) : Prop := ∀ h, h < 11 → tB r h < 2 ^ tN r
theorem ly_in {nb : Nat → Nat} {n a m h : Nat} (ha : a < 11) (h1 : ∀ j, j < n → nb j < 2048) (h2 : ∀ j, j < n → nb j < 2 ^ n) (hb : (ly nb n a (m + 1)).testBit h = true) : h < n := by
  rw [← ly_next ha h1 m, nd_tb (ar_lt h1)] at hb
  simp only [Bool.and_eq_true] at hb
  obtain ⟨j, j1, j2, j3⟩ := ar_tb.mp hb.1
  rcases Nat.lt_or_ge h n with q | q
  · exact q
  · rw [Nat.testBit_lt_two_pow (Nat.lt_of_lt_of_le (h2 j j1) (Nat.pow_le_pow_right (by omega) q))] at j3
    cases j3
theorem ly_0 (nb : Nat → Nat) (n a : Nat) : ¬ ly nb n a 0 = 0 := by
  have : 0 < 2 ^ a := Nat.two_pow_pos a
  show ¬ 2 ^ a = 0
  omega
