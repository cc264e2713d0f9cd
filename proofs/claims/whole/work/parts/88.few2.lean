/-! unlike towns, and the most doors: the numbers -/
/-- all numberings of few houses -/
def ins (x : Nat) : List Nat → List (List Nat)
  | [] => [[x]]
  | y :: l => (x :: y :: l) :: (ins x l).map (fun m => y :: m)
def prm : Nat → List (List Nat)
  | 0 => [[]]
  | n + 1 => (prm n).flatMap (ins n)
def gE (n d x : Nat) : Nat := if Nat.blt x n = true then bs (fun y => !(Nat.beq x y) && d.testBit (eb x y)) n else 0
theorem gE_eq {n d : Nat} (hn : n ≤ 6) : gD n d = gE n d := by
  funext x
  apply Nat.eq_of_testBit_eq
  intro y
  unfold gD gE
  rw [gC_tb hn (Or.inr rfl)]
  by_cases h : x < n
  · rw [if_pos (Nat.blt_eq.mpr h), bs_tb]
    by_cases h1 : x = y
    · subst h1
      rw [decide_eq_false (by omega), Nat.beq_refl]; simp
    · have e : Nat.beq x y = false := by
        cases q : Nat.beq x y with
        | false => rfl
        | true => exact absurd (Nat.eq_of_beq_eq_true q) h1
      rw [e, Bool.not_false, Bool.true_and]
      congr 1
      rw [decide_eq_decide]; omega
  · rw [if_neg (fun q => h (Nat.blt_eq.mp q)), decide_eq_false (by omega), Bool.false_and, Nat.zero_testBit]
def mnB (n d : Nat) : Bool := (prm n).all (fun l => decide (d ≤ mkS (gE n d) (fun i => l.getD i 0) n))
def cnt (f : Nat → Bool) : Nat → Nat
  | 0 => 0
  | d + 1 => cnt f d + (f d).toNat
theorem cnt_congr {f g : Nat → Bool} : ∀ {m : Nat}, (∀ d, d < m → f d = g d) → cnt f m = cnt g m := by
  intro m
  induction m with
  | zero => intro _; rfl
  | succ m ih => intro h; simp only [cnt]; rw [ih (fun d hd => h d (by omega)), h m (by omega)]
theorem cnt_le (f : Nat → Bool) : ∀ m, cnt f m ≤ m := by
  intro m
  induction m with
  | zero => exact Nat.le_refl _
  | succ m ih => simp only [cnt]; cases f m <;> simp <;> omega
def uT (z : Bool) (n : Nat) : Nat := if z then [1, 1, 2, 3, 6, 11].getD n 0 else [1, 1, 2, 3, 7, 14].getD n 0
def dT (z : Bool) (n : Nat) : Nat := if z then [0, 0, 1, 2, 3, 5, 6].getD n 0 else [0, 0, 1, 2, 4, 6, 9].getD n 0
theorem u_5 : cnt (fun d => pln 5 (gE 5 d) false 5 && mnB 5 d) (2 ^ ofs 5) = uT false 5 := by decide +kernel
theorem u_5z : cnt (fun d => pln 5 (gE 5 d) true 5 && mnB 5 d) (2 ^ ofs 5) = uT true 5 := by decide +kernel
theorem u_n : ∀ n, n < 5 → cnt (fun d => pln n (gE n d) false n && mnB n d) (2 ^ ofs n) = uT false n ∧ cnt (fun d => pln n (gE n d) true n && mnB n d) (2 ^ ofs n) = uT true n := by decide +kernel
theorem mk_self : ∀ n, n < 6 → ∀ d, d < 2 ^ ofs n → mkS (gE n d) (fun i => i) n = d := by decide +kernel
