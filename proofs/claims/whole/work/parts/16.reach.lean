/-! sets of houses as bits; what is reached -/
theorem bt_nI (n i : Nat) : bt (nI n) i = (decide (i < 32) && n.testBit i) := by
  have : (nI n).toBitVec = BitVec.ofNat 32 n := rfl
  simp [bt, this, BitVec.getLsbD_ofNat]
def nd (t s : Nat) : Nat := t &&& (s ^^^ 2047)
theorem tb_big {t i : Nat} (ht : t < 2048) (hi : 11 ≤ i) : t.testBit i = false := Nat.testBit_lt_two_pow (Nat.lt_of_lt_of_le ht (Nat.pow_le_pow_right (n := 2) (by omega) hi))
theorem tb_2047 : ∀ i, i < 11 → (2047 : Nat).testBit i = true := by decide
theorem nd_tb {t s : Nat} (ht : t < 2048) (j : Nat) : (nd t s).testBit j = (t.testBit j && !s.testBit j) := by
  unfold nd
  rw [Nat.testBit_and, Nat.testBit_xor]
  by_cases hj : j < 11
  · rw [tb_2047 j hj]; cases s.testBit j <;> simp
  · rw [tb_big ht (by omega)]; simp
theorem nd_lt {t s : Nat} (ht : t < 2048) : nd t s < 2048 := and_lt ht
theorem ni_nd {t s : Nat} (ht : t < 2048) : nI t &&& (nI s ^^^ (-1)) = nI (nd t s) := by
  apply b_ext
  intro i hi
  rw [b_and, b_xor, b_m1 i hi, bt_nI, bt_nI, bt_nI, nd_tb ht]
  simp [hi]
/-- all neighbours of those of a set below n -/
def ar (nb : Nat → Nat) : Nat → Nat → Nat
  | 0, _ => 0
  | j + 1, s => ar nb j s ||| (if s.testBit j then nb j else 0)
theorem ar_lt {nb : Nat → Nat} {s : Nat} : ∀ {n : Nat}, (∀ h, h < n → nb h < 2048) → ar nb n s < 2048 := by
  intro n
  induction n with
  | zero => intro _; simp [ar]
  | succ n ih =>
    intro h
    refine or_lt (ih fun a ha => h a (by omega)) ?_
    split
    · exact h n (by omega)
    · omega
theorem ar_tb {nb : Nat → Nat} {s h : Nat} : ∀ {n : Nat}, (ar nb n s).testBit h = true ↔ ∃ j, j < n ∧ s.testBit j = true ∧ (nb j).testBit h = true := by
  intro n
  induction n with
  | zero => simp [ar]
  | succ n ih =>
    simp only [ar, Nat.testBit_or, Bool.or_eq_true, ih]
    constructor
    · rintro (⟨j, h1, h2, h3⟩ | h1)
      · exact ⟨j, by omega, h2, h3⟩
      · by_cases hs : s.testBit n = true
        · rw [if_pos hs] at h1; exact ⟨n, by omega, hs, h1⟩
        · rw [if_neg hs] at h1; simp at h1
    · rintro ⟨j, h1, h2, h3⟩
      by_cases hj : j = n
      · subst hj; right; rw [if_pos h2]; exact h3
      · left; exact ⟨j, by omega, h2, h3⟩
/-- what is reached from a set in so many steps -/
def rc (nb : Nat → Nat) (n : Nat) : Nat → Nat → Nat
  | 0, s => s
  | m + 1, s => rc nb n m s ||| ar nb n (rc nb n m s)
theorem rc_lt {nb : Nat → Nat} {n s : Nat} (hs : s < 2048) (h : ∀ a, a < n → nb a < 2048) : ∀ m, rc nb n m s < 2048 := by
  intro m
  induction m with
  | zero => exact hs
  | succ m ih => exact or_lt ih (ar_lt h)
theorem tb_eq {a b : Nat} (h : ∀ i, a.testBit i = true ↔ b.testBit i = true) : a = b := Nat.eq_of_testBit_eq fun i => by
  have := h i
  cases ha : a.testBit i <;> cases hb : b.testBit i <;> simp_all
/-- the level that is new at step m -/
def ly (nb : Nat → Nat) (n a : Nat) : Nat → Nat
  | 0 => 2 ^ a
  | m + 1 => nd (rc nb n (m + 1) (2 ^ a)) (rc nb n m (2 ^ a))
/-- the next level out of the last one -/
theorem ly_next {nb : Nat → Nat} {n a : Nat} (ha : a < 11) (h : ∀ j, j < n → nb j < 2048) : ∀ m, nd (ar nb n (ly nb n a m)) (rc nb n m (2 ^ a)) = ly nb n a (m + 1) := by
  intro m
  have hp := pw_lt ha
  have h1 : ar nb n (ly nb n a m) < 2048 := ar_lt h
  have h2 := rc_lt (s := 2 ^ a) hp h (m + 1)
  apply tb_eq
  intro i
  rw [show ly nb n a (m + 1) = nd (rc nb n (m + 1) (2 ^ a)) (rc nb n m (2 ^ a)) from rfl]
  rw [nd_tb h1, nd_tb h2]
  simp only [Bool.and_eq_true, Bool.not_eq_true', rc, Nat.testBit_or, Bool.or_eq_true]
  constructor
  · rintro ⟨q1, q2⟩
    refine ⟨Or.inr ?_, q2⟩
    obtain ⟨j, j1, j2, j3⟩ := ar_tb.mp q1
    refine ar_tb.mpr ⟨j, j1, ?_, j3⟩
    cases m with
    | zero => exact j2
    | succ m =>
      simp only [ly] at j2
      rw [nd_tb (rc_lt hp h (m + 1))] at j2
      simp at j2
      exact j2.1
  · rintro ⟨q1, q2⟩
    refine ⟨?_, q2⟩
    rcases q1 with q1 | q1
    · rw [q2] at q1; cases q1
    · obtain ⟨j, j1, j2, j3⟩ := ar_tb.mp q1
      refine ar_tb.mpr ⟨j, j1, ?_, j3⟩
      cases m with
      | zero => exact j2
      | succ m =>
        simp only [ly]
        rw [nd_tb (rc_lt hp h (m + 1)), j2, Bool.true_and, Bool.not_eq_true']
        cases hb : (rc nb n m (2 ^ a)).testBit j with
        | false => rfl
        | true =>
          have : (rc nb n (m + 1) (2 ^ a)).testBit i = true := by
            simp only [rc, Nat.testBit_or, Bool.or_eq_true]
            exact Or.inr (ar_tb.mpr ⟨j, j1, hb, j3⟩)
          rw [this] at q2; cases q2
theorem rc_next {nb : Nat → Nat} {n a : Nat} (ha : a < 11) (h : ∀ j, j < n → nb j < 2048) (m : Nat) : rc nb n m (2 ^ a) ||| ly nb n a (m + 1) = rc nb n (m + 1) (2 ^ a) := by
  have hp := pw_lt ha
  apply tb_eq
  intro i
  simp only [ly, Nat.testBit_or, Bool.or_eq_true]
  rw [nd_tb (rc_lt hp h (m + 1))]
  simp only [rc, Nat.testBit_or, Bool.and_eq_true, Bool.or_eq_true, Bool.not_eq_true']
  constructor
  · rintro (q | ⟨q, -⟩)
    · exact Or.inl q
    · exact q
  · rintro (q | q)
    · exact Or.inl q
    · cases hb : (rc nb n m (2 ^ a)).testBit i
      · exact Or.inr ⟨Or.inr q, rfl⟩
      · exact Or.inl rfl
theorem ly_lt {nb : Nat → Nat} {n a : Nat} (ha : a < 11) (h : ∀ j, j < n → nb j < 2048) (m : Nat) : ly nb n a m < 2048 := by
  cases m with
  | zero => exact pw_lt ha
  | succ m => exact nd_lt (rc_lt (pw_lt ha) h (m + 1))
/-- a new level makes the set greater -/
theorem rc_grow {nb : Nat → Nat} {n a m : Nat} (ha : a < 11) (h : ∀ j, j < n → nb j < 2048) (hl : ¬ ly nb n a (m + 1) = 0) : rc nb n m (2 ^ a) < rc nb n (m + 1) (2 ^ a) := by
  have h1 := rc_next ha h m
  have h2 : rc nb n m (2 ^ a) ≤ rc nb n (m + 1) (2 ^ a) := by rw [← h1]; exact Nat.left_le_or
  rcases Nat.lt_or_eq_of_le h2 with q | q
  · exact q
  · exfalso
    apply hl
    apply tb_eq
    intro i
    simp only [ly]
    rw [nd_tb (rc_lt (pw_lt ha) h (m + 1)), ← q]
    cases (rc nb n m (2 ^ a)).testBit i <;> simp
/-- how far a house is, as far as step m knows -/
def fd (nb : Nat → Nat) (n a : Nat) : Nat → Nat → Nat
  | 0, h => if h = a then 0 else 99
  | m + 1, h => if (ly nb n a (m + 1)).testBit h then m + 1 else fd nb n a m h
theorem ly_in {nb : Nat → Nat} {n a m h : Nat} (ha : a < 11) (h1 : ∀ j, j < n → nb j < 2048) (h2 : ∀ j, j < n → nb j < 2 ^ n) (hb : (ly nb n a (m + 1)).testBit h = true) : h < n := by
  rw [← ly_next ha h1 m, nd_tb (ar_lt h1)] at hb
  simp only [Bool.and_eq_true] at hb
  obtain ⟨j, j1, j2, j3⟩ := ar_tb.mp hb.1
  rcases Nat.lt_or_ge h n with q | q
  · exact q
  · rw [Nat.testBit_lt_two_pow (Nat.lt_of_lt_of_le (h2 j j1) (Nat.pow_le_pow_right (by omega) q))] at j3
    cases j3
theorem ly_0 (nb : Nat → Nat) (n a : Nat) : ¬ ly nb n a 0 = 0 := by
  have : 0 < 2 ^ a := Nat.two_pow_pos a
  show ¬ 2 ^ a = 0
  omega
/-- the set of those below j of whom p says so -/
def bs (p : Nat → Bool) : Nat → Nat
  | 0 => 0
  | j + 1 => bs p j ||| (if p j then 2 ^ j else 0)
theorem bs_tb {p : Nat → Bool} {i : Nat} : ∀ {j : Nat}, (bs p j).testBit i = (decide (i < j) && p i) := by
  intro j
  induction j with
  | zero => simp [bs]
  | succ j ih =>
    simp only [bs, Nat.testBit_or, ih]
    by_cases hp : p j = true
    · rw [if_pos hp, Nat.testBit_two_pow]
      by_cases hij : i = j
      · subst hij; simp [hp]
      · have : ¬ j = i := fun q => hij q.symm
        by_cases hlt : i < j
        · simp [hlt, this, show i < j + 1 by omega]
        · simp [hlt, this, show ¬ i < j + 1 by omega]
    · rw [if_neg hp]
      by_cases hij : i = j
      · subst hij; simp [hp]
      · by_cases hlt : i < j
        · simp [hlt, show i < j + 1 by omega]
        · simp [hlt, show ¬ i < j + 1 by omega]
theorem bs_lt {p : Nat → Bool} : ∀ {j : Nat}, j ≤ 11 → bs p j < 2048 := by
  intro j
  induction j with
  | zero => intro _; simp [bs]
  | succ j ih =>
    intro h
    refine or_lt (ih (by omega)) ?_
    split
    · exact pw_lt (by omega)
    · omega
theorem bs_congr {p q : Nat → Bool} : ∀ {j : Nat}, (∀ i, i < j → p i = q i) → bs p j = bs q j := by
  intro j
  induction j with
  | zero => intro _; rfl
  | succ j ih => intro h; simp only [bs]; rw [ih (fun i hi => h i (by omega)), h j (by omega)]
theorem bs_eq {p : Nat → Bool} {s n : Nat} (h1 : ∀ i, i < n → s.testBit i = p i) (h2 : ∀ i, n ≤ i → s.testBit i = false) : bs p n = s := by
  apply Nat.eq_of_testBit_eq
  intro i
  rw [bs_tb]
  by_cases hi : i < n
  · simp [hi, h1 i hi]
  · simp [hi, h2 i (by omega)]
/-- counting bits -/
theorem bc_or {a b : Nat} (h : ∀ i, ¬ (a.testBit i = true ∧ b.testBit i = true)) : ∀ j, bc j (a ||| b) = bc j a + bc j b := by
  intro j
  induction j with
  | zero => rfl
  | succ j ih =>
    simp only [bc, ih, Nat.testBit_or]
    have := h j
    cases ha : a.testBit j <;> cases hb : b.testBit j <;> simp_all <;> omega
theorem bc_pos {b : Nat} (hb : b < 2048) (h : ¬ b = 0) : 1 ≤ bc 11 b := by
  rcases Nat.eq_zero_or_pos (bc 11 b) with q | q
  · exfalso
    apply h
    have key : ∀ j, bc j b = 0 → ∀ i, i < j → b.testBit i = false := by
      intro j
      induction j with
      | zero => intro _ i hi; omega
      | succ j ih =>
        intro hz i hi
        simp only [bc] at hz
        by_cases hij : i = j
        · subst hij
          cases hbi : b.testBit i with
          | false => rfl
          | true => rw [hbi] at hz; simp at hz
        · exact ih (by omega) i (by omega)
    apply Nat.eq_of_testBit_eq
    intro i
    rw [Nat.zero_testBit]
    by_cases hi : i < 11
    · exact key 11 q i hi
    · exact tb_big hb (by omega)
  · exact q
section
variable {nb : Nat → Nat} {n a : Nat}
theorem rc_cnt (ha : a < 11) (h : ∀ j, j < n → nb j < 2048) : ∀ M, (∀ i, i < M → ¬ ly nb n a (i + 1) = 0) → M + 1 ≤ bc 11 (rc nb n M (2 ^ a)) := by
  intro M
  induction M with
  | zero =>
    intro _
    exact bc_pos (pw_lt ha) (ly_0 nb n a)
  | succ M ih =>
    intro hM
    have h1 := ih (fun i hi => hM i (by omega))
    rw [← rc_next ha h M, bc_or]
    · have := bc_pos (ly_lt ha h (M + 1)) (hM M (by omega))
      omega
    · rintro i ⟨q1, q2⟩
      simp only [ly] at q2
      rw [nd_tb (rc_lt (pw_lt ha) h (M + 1)), q1] at q2
      simp at q2
/-- all levels are found in at most ten steps -/
theorem ly_10 {M : Nat} (ha : a < 11) (h : ∀ j, j < n → nb j < 2048) (hM : ∀ i, i < M → ¬ ly nb n a (i + 1) = 0) : M ≤ 10 := by
  have h1 := rc_cnt ha h M hM
  have h2 := bc_le 11 (rc nb n M (2 ^ a))
  omega
theorem rc_stay {M : Nat} (ha : a < 11) (h : ∀ j, j < n → nb j < 2048) (hM : ly nb n a (M + 1) = 0) : ∀ i, rc nb n (M + i) (2 ^ a) = rc nb n M (2 ^ a) := by
  intro i
  have h1 : rc nb n (M + 1) (2 ^ a) = rc nb n M (2 ^ a) := by
    have := rc_next ha h M
    rw [hM, Nat.or_zero] at this
    exact this.symm
  induction i with
  | zero => rfl
  | succ i ih =>
    show rc nb n (M + i) (2 ^ a) ||| ar nb n (rc nb n (M + i) (2 ^ a)) = _
    rw [ih]
    exact h1
theorem rc_11 {M : Nat} (ha : a < 11) (h : ∀ j, j < n → nb j < 2048) (h0 : ly nb n a (M + 1) = 0) (hM : ∀ i, i < M → ¬ ly nb n a (i + 1) = 0) : rc nb n M (2 ^ a) = rc nb n 11 (2 ^ a) := by
  have := ly_10 ha h hM
  have h1 := rc_stay ha h h0 (11 - M)
  rw [show M + (11 - M) = 11 by omega] at h1
  exact h1.symm
/-- the numbers and the levels -/
theorem fd_99 (ha : a < 11) (h : ∀ j, j < n → nb j < 2048) {x : Nat} : ∀ {M : Nat}, M < 99 → (fd nb n a M x < 99 ↔ (rc nb n M (2 ^ a)).testBit x = true) := by
  intro M
  induction M with
  | zero =>
    intro _
    simp only [fd, rc, Nat.testBit_two_pow]
    by_cases hx : x = a
    · simp [hx]
    · have : ¬ a = x := fun q => hx q.symm
      simp [hx, this]
  | succ M ih =>
    intro hM
    rw [← rc_next ha h M, Nat.testBit_or]
    simp only [fd]
    by_cases hb : (ly nb n a (M + 1)).testBit x = true
    · simp [hb]; omega
    · simp [hb, ih (by omega)]
theorem fd_eq (ha : a < 11) (h : ∀ j, j < n → nb j < 2048) {x i : Nat} (hi : i < 99) : ∀ {M : Nat}, M < 99 → (fd nb n a M x = i ↔ i ≤ M ∧ (ly nb n a i).testBit x = true) := by
  intro M
  induction M with
  | zero =>
    intro _
    simp only [fd]
    by_cases hx : x = a
    · subst hx
      rw [if_pos rfl]
      constructor
      · intro q; subst q; exact ⟨by omega, by simp [ly]⟩
      · intro q; omega
    · rw [if_neg hx]
      constructor
      · intro q; omega
      · rintro ⟨q1, q2⟩
        have : i = 0 := by omega
        subst this
        simp only [ly, Nat.testBit_two_pow, decide_eq_true_eq] at q2
        exact absurd q2.symm hx
  | succ M ih =>
    intro hM
    simp only [fd]
    by_cases hb : (ly nb n a (M + 1)).testBit x = true
    · rw [if_pos hb]
      constructor
      · intro q; subst q; exact ⟨by omega, hb⟩
      · rintro ⟨q1, q2⟩
        rcases Nat.lt_or_ge i (M + 1) with q | q
        · exfalso
          have e1 := (fd_99 ha h (x := x) (M := M) (by omega)).mp (by
            have := (ih (by omega)).mpr ⟨by omega, q2⟩
            omega)
          simp only [ly] at hb
          rw [nd_tb (rc_lt (pw_lt ha) h (M + 1)), e1] at hb
          simp at hb
        · omega
    · rw [if_neg hb, ih (by omega)]
      constructor
      · rintro ⟨q1, q2⟩; exact ⟨by omega, q2⟩
      · rintro ⟨q1, q2⟩
        refine ⟨?_, q2⟩
        rcases Nat.lt_or_ge M i with q | q
        · have : i = M + 1 := by omega
          subst this; exact absurd q2 hb
        · exact q
theorem fd_le (x : Nat) : ∀ {M : Nat}, M < 99 → fd nb n a M x ≤ 99 := by
  intro M
  induction M with
  | zero => intro _; simp only [fd]; split <;> omega
  | succ M ih => intro hM; simp only [fd]; split; omega; exact ih (by omega)
end
theorem ly_stay {nb : Nat → Nat} {n a M : Nat} (ha : a < 11) (h : ∀ j, j < n → nb j < 2048) (hM : ly nb n a (M + 1) = 0) (i : Nat) : ly nb n a (M + 1 + i) = 0 := by
  have h1 := rc_stay ha h hM i
  have h2 := rc_stay ha h hM (i + 1)
  rw [show M + 1 + i = (M + i) + 1 by omega]
  simp only [ly]
  rw [show M + i + 1 = M + (i + 1) by omega, h1, h2]
  apply tb_eq
  intro x
  rw [nd_tb (rc_lt (pw_lt ha) h M)]
  cases (rc nb n M (2 ^ a)).testBit x <;> simp
/-- parts: houses whose part has none before them -/
def pt_seen (nb : Nat → Nat) (n : Nat) : Nat → Nat
  | 0 => 0
  | j + 1 => if (pt_seen nb n j).testBit j then pt_seen nb n j else pt_seen nb n j ||| bs (fun h => (rc nb n 11 (2 ^ j)).testBit h) n
def pt_cnt (nb : Nat → Nat) (n : Nat) : Nat → Nat
  | 0 => 0
  | j + 1 => if (pt_seen nb n j).testBit j then pt_cnt nb n j else pt_cnt nb n j + 1
theorem pt_lt {nb : Nat → Nat} {n : Nat} (hn : n ≤ 11) : ∀ j, pt_seen nb n j < 2048 := by
  intro j
  induction j with
  | zero => simp [pt_seen]
  | succ j ih =>
    simp only [pt_seen]
    split
    · exact ih
    · exact or_lt ih (bs_lt hn)
