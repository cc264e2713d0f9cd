/-! the most doors: the numbers -/
theorem sm_two {f : Nat → Nat} {n i j : Nat} (hi : i < n) (hj : j < n) (hij : i ≠ j) : f i + f j ≤ sm f n := by
  have h1 : sm (fun k => (if k = i then f i else 0) + (if k = j then f j else 0)) n ≤ sm f n := sm_mono (fun k _ => by
    by_cases a : k = i
    · subst a
      rw [if_pos rfl, if_neg hij]; omega
    · by_cases b : k = j
      · subst b; rw [if_neg a, if_pos rfl]; omega
      · rw [if_neg a, if_neg b]; omega)
  rw [sm_add, sm_at hi, sm_at hj] at h1
  exact h1
theorem bc_two {s i j : Nat} (hi : i < 11) (hj : j < 11) (hij : i ≠ j) (h1 : s.testBit i = true) (h2 : s.testBit j = true) : 2 ≤ bc 11 s := by
  rw [bc_sm]
  have := sm_two (f := fun k => (s.testBit k).toNat) hi hj hij
  simp only [h1, h2, Bool.toNat_true] at this
  exact this
theorem bc_1 {s i : Nat} (hi : i < 11) (h1 : s.testBit i = true) : 1 ≤ bc 11 s := by
  rw [bc_sm]
  have h : 0 < sm (fun k => (s.testBit k).toNat) 11 := sm_pos.mpr ⟨i, hi, by rw [h1]; decide⟩
  exact h
section
variable {n : Nat} {B : Nat → Nat}
theorem no_tri {z : Bool} (hw : wf n B) (hp : pln n B z n = true) {a b c : Nat} (ha : a < n) (hb : b < n) (hc : c < n) (h1 : (B a).testBit b = true) (h2 : (B b).testBit c = true) (h3 : (B a).testBit c = true) : False := by
  have hn := hw.1
  have := pln_all.mp hp a ha
  unfold pla at this
  rw [Bool.and_eq_true, decide_eq_true_eq] at this
  have hbc : b ≠ c := fun e => by subst e; rw [hw.2.2.2.2] at h2; cases h2
  have q := sm_two (f := fun a' => if (B a).testBit a' then bc 11 (B a &&& B a') else 0) hb hc hbc
  simp only [h1, h3, ↓reduceIte] at q
  have q1 : 1 ≤ bc 11 (B a &&& B b) := bc_1 (i := c) (by omega) (by rw [Nat.testBit_and, h3, h2]; rfl)
  have q2 : 1 ≤ bc 11 (B a &&& B c) := bc_1 (i := b) (by omega) (by rw [Nat.testBit_and, h1, hw.2.2.2.1, h2]; rfl)
  have := this.1
  unfold th2 at this
  omega
theorem no_four (hw : wf n B) (hp : pln n B true n = true) {a b x y : Nat} (ha : a < n) (hb : b < n) (hx : x < n) (hy : y < n) (hab : b ≠ a) (hxy : x ≠ y) (h1 : (B a).testBit x = true) (h2 : (B b).testBit x = true) (h3 : (B a).testBit y = true) (h4 : (B b).testBit y = true) : False := by
  have hn := hw.1
  have := pln_all.mp hp a ha
  unfold pla at this
  rw [Bool.and_eq_true, Bool.not_true, Bool.false_or, decide_eq_true_eq, decide_eq_true_eq] at this
  have q : 2 ≤ bc 11 (B a &&& B b) := bc_two (i := x) (j := y) (by omega) (by omega) hxy (by rw [Nat.testBit_and, h1, h2]; rfl) (by rw [Nat.testBit_and, h3, h4]; rfl)
  have q2 : 0 < fo1 n B a := sm_pos.mpr ⟨b, hb, by
    rw [if_neg hab]
    have hle := bc_le 11 (B a &&& B b)
    have : ∀ k, k < 12 → 2 ≤ k → 0 < c2 k := by decide
    exact this _ (by omega) q⟩
  omega
end
/-- threes and rounds of four among six houses -/
def tri6 : List (Nat × Nat × Nat) := (List.range 6).flatMap (fun c => (List.range c).flatMap (fun b => (List.range b).map (fun a => (a, b, c))))
def four6 : List (Nat × Nat × Nat × Nat) := (List.range 6).flatMap (fun b => (List.range b).flatMap (fun a => (List.range 6).flatMap (fun y => (List.range y).filterMap (fun x => if a = x ∨ a = y ∨ b = x ∨ b = y then none else some (a, b, x, y)))))
def TRI : List (Nat × Nat × Nat) := [(0, 2, 1), (0, 4, 3), (1, 5, 3), (2, 5, 4), (0, 7, 6), (1, 8, 6), (2, 8, 7), (3, 9, 6), (4, 9, 7), (5, 9, 8), (0, 11, 10), (1, 12, 10), (2, 12, 11), (3, 13, 10), (4, 13, 11), (5, 13, 12), (6, 14, 10), (7, 14, 11), (8, 14, 12), (9, 14, 13)]
def FOU : List (Nat × Nat × Nat × Nat) := [(1, 2, 3, 4), (1, 2, 6, 7), (3, 4, 6, 7), (1, 2, 10, 11), (3, 4, 10, 11), (6, 7, 10, 11), (0, 2, 3, 5), (0, 2, 6, 8), (3, 5, 6, 8), (0, 2, 10, 12), (3, 5, 10, 12), (6, 8, 10, 12), (0, 1, 4, 5), (0, 1, 7, 8), (4, 5, 7, 8), (0, 1, 11, 12), (4, 5, 11, 12), (7, 8, 11, 12), (0, 4, 6, 9), (1, 5, 6, 9), (0, 4, 10, 13), (1, 5, 10, 13), (6, 9, 10, 13), (0, 3, 7, 9), (2, 5, 7, 9), (0, 3, 11, 13), (2, 5, 11, 13), (7, 9, 11, 13), (1, 3, 8, 9), (2, 4, 8, 9), (1, 3, 12, 13), (2, 4, 12, 13), (8, 9, 12, 13), (0, 7, 10, 14), (1, 8, 10, 14), (3, 9, 10, 14), (0, 6, 11, 14), (2, 8, 11, 14), (4, 9, 11, 14), (1, 6, 12, 14), (2, 7, 12, 14), (5, 9, 12, 14), (3, 6, 13, 14), (4, 7, 13, 14), (5, 8, 13, 14)]
theorem TRI_ok : ∀ t ∈ TRI, ∃ q ∈ tri6, t = (eb q.1 q.2.1, eb q.2.1 q.2.2, eb q.1 q.2.2) := by decide +kernel
theorem FOU_ok : ∀ t ∈ FOU, ∃ q ∈ four6, t = (eb q.1 q.2.2.1, eb q.2.1 q.2.2.1, eb q.1 q.2.2.2, eb q.2.1 q.2.2.2) := by decide +kernel
theorem tri6_ok : ∀ q ∈ tri6, q.1 < 6 ∧ q.2.1 < 6 ∧ q.2.2 < 6 ∧ q.1 ≠ q.2.1 ∧ q.2.1 ≠ q.2.2 ∧ q.1 ≠ q.2.2 := by decide +kernel
theorem four6_ok : ∀ q ∈ four6, q.1 < 6 ∧ q.2.1 < 6 ∧ q.2.2.1 < 6 ∧ q.2.2.2 < 6 ∧ q.2.1 ≠ q.1 ∧ q.2.2.1 ≠ q.2.2.2 ∧ q.1 ≠ q.2.2.1 ∧ q.1 ≠ q.2.2.2 ∧ q.2.1 ≠ q.2.2.1 ∧ q.2.1 ≠ q.2.2.2 := by decide +kernel
theorem eb_nb : ∀ n, n < 7 → ∀ a, a < 6 → ∀ b, b < 6 → (a == b || !(decide (eb a b < ofs n)) || (decide (a < n) && decide (b < n))) = true := by decide +kernel
theorem eb_n (n : Nat) (hn : n < 7) (a : Nat) (ha : a < 6) (b : Nat) (hb : b < 6) (hab : a ≠ b) (h : eb a b < ofs n) : a < n ∧ b < n := by
  have := eb_nb n hn a ha b hb
  rw [decide_eq_true h] at this
  simp only [Bool.or_eq_true, beq_iff_eq, hab, false_or, Bool.not_true, Bool.false_eq_true, Bool.and_eq_true, decide_eq_true_eq] at this
  exact this
def hasT (d : Nat) : Bool := TRI.any (fun t => d.testBit t.1 && d.testBit t.2.1 && d.testBit t.2.2)
def hasF (d : Nat) : Bool := FOU.any (fun t => d.testBit t.1 && d.testBit t.2.1 && d.testBit t.2.2.1 && d.testBit t.2.2.2)
theorem gD_wf {n d : Nat} (hn : n ≤ 6) : wf n (gD n d) := by
  refine ⟨by omega, fun a => ?_, fun a ha => ?_, fun a b => ?_, fun a => ?_⟩
  · refine lt_tb (fun y hy => ?_)
    unfold gD at hy
    rw [gC_tb hn (Or.inr rfl), Bool.and_eq_true, decide_eq_true_eq] at hy
    omega
  · apply Nat.eq_of_testBit_eq
    intro y
    unfold gD
    rw [gC_tb hn (Or.inr rfl), decide_eq_false (by omega), Bool.false_and, Nat.zero_testBit]
  · unfold gD
    rw [gC_tb hn (Or.inr rfl), gC_tb hn (Or.inr rfl), eb_comm a b]
    congr 1
    rw [decide_eq_decide]; omega
  · unfold gD
    rw [gC_tb hn (Or.inr rfl), decide_eq_false (by omega), Bool.false_and]
theorem gD_tb {n d a b : Nat} (hn : n ≤ 6) (hd : d < 2 ^ ofs n) (ha : a < 6) (hb : b < 6) (hab : a ≠ b) (h : d.testBit (eb a b) = true) : a < n ∧ b < n ∧ (gD n d a).testBit b = true := by
  obtain ⟨h1, h2⟩ := eb_n n (by omega) a ha b hb hab (tb_lt hd h)
  refine ⟨h1, h2, ?_⟩
  unfold gD
  rw [gC_tb hn (Or.inr rfl), h, decide_eq_true (by omega)]; rfl
theorem no_T {n d : Nat} {z : Bool} (hn : n ≤ 6) (hd : d < 2 ^ ofs n) (hp : pln n (gD n d) z n = true) : hasT d = false := by
  cases q : hasT d with
  | false => rfl
  | true =>
    unfold hasT at q
    rw [List.any_eq_true] at q
    obtain ⟨t, ht, q⟩ := q
    obtain ⟨⟨a, b, c⟩, hq, rfl⟩ := TRI_ok t ht
    obtain ⟨h1, h2, h3, h4, h5, h6⟩ := tri6_ok _ hq
    simp only [Bool.and_eq_true] at q
    obtain ⟨⟨q1, q2⟩, q3⟩ := q
    obtain ⟨y1, y2, y3⟩ := gD_tb hn hd h1 h2 h4 q1
    obtain ⟨-, y4, y5⟩ := gD_tb hn hd h2 h3 h5 q2
    obtain ⟨-, -, y6⟩ := gD_tb hn hd h1 h3 h6 q3
    exact absurd (no_tri (gD_wf hn) hp y1 y2 y4 y3 y5 y6) id
theorem no_F {n d : Nat} (hn : n ≤ 6) (hd : d < 2 ^ ofs n) (hp : pln n (gD n d) true n = true) : hasF d = false := by
  cases q : hasF d with
  | false => rfl
  | true =>
    unfold hasF at q
    rw [List.any_eq_true] at q
    obtain ⟨t, ht, q⟩ := q
    obtain ⟨⟨a, b, x, y⟩, hq, rfl⟩ := FOU_ok t ht
    obtain ⟨h1, h2, h3, h4, h5, h6, h7, h8, h9, h10⟩ := four6_ok _ hq
    simp only [Bool.and_eq_true] at q
    obtain ⟨⟨⟨q1, q2⟩, q3⟩, q4⟩ := q
    obtain ⟨y1, y2, y3⟩ := gD_tb hn hd h1 h3 h7 q1
    obtain ⟨y4, -, y5⟩ := gD_tb hn hd h2 h3 h9 q2
    obtain ⟨-, y6, y7⟩ := gD_tb hn hd h1 h4 h8 q3
    obtain ⟨-, -, y8⟩ := gD_tb hn hd h2 h4 h10 q4
    exact absurd (no_four (gD_wf hn) hp y1 y4 y2 y6 h5 h6 y3 y5 y7 y8) id
def allB (f : Nat → Bool) : Nat → Bool
  | 0 => true
  | d + 1 => f d && allB f d
theorem allB_at {f : Nat → Bool} : ∀ {m : Nat}, allB f m = true → ∀ d, d < m → f d = true := by
  intro m
  induction m with
  | zero => intro _ d hd; omega
  | succ m ih =>
    intro h d hd
    simp only [allB, Bool.and_eq_true] at h
    by_cases q : d = m
    · subst q; exact h.1
    · exact ih h.2 d (by omega)
/-- how many bits of fifteen -/
def pcb : List Nat := [0, 1, 1, 2, 1, 2, 2, 3, 1, 2, 2, 3, 2, 3, 3, 4, 1, 2, 2, 3, 2, 3, 3, 4, 2, 3, 3, 4, 3, 4, 4, 5]
def pk15 (d : Nat) : Nat := pcb.getD (d % 32) 0 + (pcb.getD (d / 32 % 32) 0 + pcb.getD (d / 1024) 0)
theorem pcb_ok : ∀ k, k < 32 → pcb.getD k 0 = bc 5 k := by decide +kernel
theorem pk_bc {d : Nat} (hd : d < 2 ^ 15) : pk15 d = bc 15 d := by
  unfold pk15
  rw [pcb_ok _ (by omega), pcb_ok _ (by omega), pcb_ok _ (by omega)]
  have e1 : ∀ k, k < 5 → (d % 32).testBit k = d.testBit k := fun k hk => by
    rw [show (32 : Nat) = 2 ^ 5 from rfl, Nat.testBit_mod_two_pow, decide_eq_true hk, Bool.true_and]
  have e2 : ∀ k, k < 5 → (d / 32 % 32).testBit k = d.testBit (5 + k) := fun k hk => by
    rw [show (32 : Nat) = 2 ^ 5 from rfl, Nat.testBit_mod_two_pow, decide_eq_true hk, Bool.true_and, Nat.testBit_div_two_pow]
    congr 1; omega
  have e3 : ∀ k, (d / 1024).testBit k = d.testBit (10 + k) := fun k => by
    rw [show (1024 : Nat) = 2 ^ 10 from rfl, Nat.testBit_div_two_pow]
    congr 1; omega
  simp only [bc, e1 0 (by omega), e1 1 (by omega), e1 2 (by omega), e1 3 (by omega), e1 4 (by omega), e2 0 (by omega), e2 1 (by omega), e2 2 (by omega), e2 3 (by omega), e2 4 (by omega), e3]
  simp only [Nat.reduceAdd]
  omega
theorem most_T : allB (fun d => Nat.ble (pk15 d) 9 || hasT d) 32768 = true := by decide +kernel
