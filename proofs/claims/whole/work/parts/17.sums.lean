/-! sums, double and triple ones -/
theorem sm_add (f g : Nat → Nat) : ∀ n, sm (fun i => f i + g i) n = sm f n + sm g n := by
  intro n
  induction n with
  | zero => rfl
  | succ n ih => simp only [sm, ih]; omega
theorem sm_mulc (c : Nat) (f : Nat → Nat) : ∀ n, sm (fun i => c * f i) n = c * sm f n := by
  intro n
  induction n with
  | zero => rfl
  | succ n ih => simp only [sm, ih, Nat.mul_add]
theorem sm_0 : ∀ n, sm (fun _ => 0) n = 0 := by
  intro n
  induction n with
  | zero => rfl
  | succ n ih => simp only [sm, ih]
theorem sm_swap (f : Nat → Nat → Nat) (m : Nat) : ∀ n, sm (fun i => sm (fun j => f i j) m) n = sm (fun j => sm (fun i => f i j) n) m := by
  intro n
  induction n with
  | zero => exact (sm_0 m).symm
  | succ n ih => simp only [sm, ih]; rw [← sm_add]
theorem sm_mono {f g : Nat → Nat} : ∀ {n : Nat}, (∀ j, j < n → f j ≤ g j) → sm f n ≤ sm g n := by
  intro n
  induction n with
  | zero => intro _; exact Nat.le_refl _
  | succ n ih => intro h; have := ih (fun j hj => h j (by omega)); have := h n (by omega); simp only [sm]; omega
theorem bc_sm (j s : Nat) : bc j s = sm (fun i => (s.testBit i).toNat) j := by
  induction j with
  | zero => rfl
  | succ j ih => simp only [bc, sm, ih]
theorem sm_one (c n : Nat) : sm (fun _ => c) n = c * n := by
  induction n with
  | zero => rfl
  | succ n ih => simp only [sm, ih, Nat.mul_succ]
/-- only what is below b counts -/
theorem sm_below (g : Nat → Nat) (b : Nat) : ∀ n, b ≤ n → sm (fun a => if a < b then g a else 0) n = sm g b := by
  intro n
  induction n with
  | zero => intro h; have : b = 0 := by omega
            subst this; rfl
  | succ n ih =>
    intro h
    by_cases hb : b = n + 1
    · subst hb
      exact sm_congr (fun j hj => by rw [if_pos hj])
    · simp only [sm]
      rw [ih (by omega), if_neg (by omega), Nat.add_zero]
/-- what is 0 from m on -/
theorem sm_cut {f : Nat → Nat} {m : Nat} : ∀ {n : Nat}, m ≤ n → (∀ i, m ≤ i → f i = 0) → sm f n = sm f m := by
  intro n
  induction n with
  | zero => intro h _; have : m = 0 := by omega
            subst this; rfl
  | succ n ih =>
    intro h h0
    by_cases hm : m = n + 1
    · subst hm; rfl
    · simp only [sm]
      rw [ih (by omega) h0, h0 n (by omega), Nat.add_zero]
/-- a symmetric double sum is twice its half -/
theorem sm_sym {f : Nat → Nat → Nat} (hs : ∀ a b, f a b = f b a) (hd : ∀ a, f a a = 0) : ∀ n, sm (fun a => sm (fun b => f a b) n) n = 2 * sm (fun a => sm (fun b => f a b) a) n := by
  intro n
  induction n with
  | zero => rfl
  | succ n ih =>
    simp only [sm]
    rw [sm_add, ih, hd n, sm_congr (g := fun b => f n b) (fun j _ => hs j n)]
    omega
/-- a loop over pairs, the lesser first -/
theorem sm_up (f : Nat → Nat → Nat) (n : Nat) : sm (fun a => sm (fun b => if a < b then f a b else 0) n) n = sm (fun b => sm (fun a => f a b) b) n := by
  rw [sm_swap]
  exact sm_congr (fun b hb => sm_below (fun a => f a b) b n (by omega))
/-- triples, the greatest outermost -/
def t3 (f : Nat → Nat → Nat → Nat) (n : Nat) : Nat := sm (fun c => sm (fun b => sm (fun a => f a b c) b) c) n
theorem sm_ite0 (c : Prop) [Decidable c] (f : Nat → Nat) (n : Nat) : sm (fun i => if c then f i else 0) n = if c then sm f n else 0 := by
  by_cases h : c
  · simp only [if_pos h]
  · simp only [if_neg h, sm_0]
/-- a loop over triples, the least first -/
theorem sm_up3 (f : Nat → Nat → Nat → Nat) (n : Nat) : sm (fun a => sm (fun b => if a < b then sm (fun c => if b < c then f a b c else 0) n else 0) n) n = t3 f n := by
  rw [sm_up]
  have e : ∀ b, sm (fun a => sm (fun c => if b < c then f a b c else 0) n) b = sm (fun c => if b < c then sm (fun a => f a b c) b else 0) n := by
    intro b
    rw [sm_swap]
    exact sm_congr (fun c _ => sm_ite0 _ _ _)
  rw [sm_congr (fun b _ => e b)]
  rw [sm_up (fun b c => sm (fun a => f a b c) b)]
  rfl
/-- a symmetric triple sum is six times that over triples -/
theorem sm_sym3 {f : Nat → Nat → Nat → Nat} (h1 : ∀ a b c, f a b c = f b a c) (h2 : ∀ a b c, f a b c = f a c b) (hd : ∀ a c, f a a c = 0) : ∀ n, sm (fun a => sm (fun b => sm (fun c => f a b c) n) n) n = 6 * t3 f n := by
  intro n
  induction n with
  | zero => rfl
  | succ n ih =>
    have d2 : ∀ a b, f a b b = 0 := fun a b => by rw [h1, h2, h1]; exact hd b a
    have d3 : ∀ a b, f a b a = 0 := fun a b => by rw [h2]; exact hd a b
    have hp := sm_sym (f := fun a b => f a b n) (fun a b => h1 a b n) (fun a => hd a n) n
    have e1 : ∀ a, sm (fun b => f a n b) n = sm (fun b => f a b n) n := fun a => sm_congr (fun b _ => h2 a n b)
    have e2 : sm (fun b => sm (fun c => f n b c) n) n = sm (fun a => sm (fun b => f a b n) n) n := sm_congr (fun b _ => sm_congr (fun c _ => by rw [h1, h2]))
    have e3 : sm (fun b => f n b n) n = 0 := by rw [sm_congr (fun b _ => d3 n b)]; exact sm_0 n
    have e4 : sm (fun c => f n n c) n = 0 := by rw [sm_congr (fun c _ => hd n c)]; exact sm_0 n
    have e5 : sm (fun a => f a n n) n = 0 := by rw [sm_congr (fun a _ => d2 a n)]; exact sm_0 n
    have ht : t3 f (n + 1) = t3 f n + sm (fun b => sm (fun a => f a b n) b) n := rfl
    have e6 : sm (fun b => sm (fun a => f a b n) b) n = sm (fun a => sm (fun b => f a b n) a) n := sm_congr (fun b _ => sm_congr (fun a _ => h1 a b n))
    simp only [sm]
    simp only [sm_add, ih, e1, e2, e3, e4, e5, hd, ht, e6, sm_0]
    rw [hp]
    omega
theorem bc_11 {s n : Nat} (hn : n ≤ 11) (hs : s < 2 ^ n) : bc 11 s = bc n s := by
  rw [bc_sm, bc_sm]
  exact sm_cut hn (fun i hi => by rw [Nat.testBit_lt_two_pow (Nat.lt_of_lt_of_le hs (Nat.pow_le_pow_right (by omega) hi))]; rfl)
theorem bc_mono {s t : Nat} (h : ∀ i, s.testBit i = true → t.testBit i = true) : ∀ j, bc j s ≤ bc j t := by
  intro j
  rw [bc_sm, bc_sm]
  refine sm_mono (fun i _ => ?_)
  have := h i
  cases h1 : s.testBit i <;> cases h2 : t.testBit i <;> simp_all
theorem bc_congr {s t : Nat} : ∀ {j : Nat}, (∀ i, i < j → s.testBit i = t.testBit i) → bc j s = bc j t := by
  intro j h
  rw [bc_sm, bc_sm]
  exact sm_congr (fun i hi => by rw [h i hi])
theorem bc_0 (j : Nat) : bc j 0 = 0 := by
  rw [bc_sm, sm_congr (g := fun _ => 0) (fun i _ => by simp), sm_0]
/-- a set with what is below it taken apart: one house more -/
theorem bc_one {s h j : Nat} (hh : h < j) (hs : s.testBit h = false) : bc j (s ||| 2 ^ h) = bc j s + 1 := by
  rw [bc_or (fun i q => by
    rw [Nat.testBit_two_pow] at q
    have h1 := q.2
    simp at h1
    subst h1
    rw [hs] at q
    exact absurd q.1 (by simp))]
  congr 1
  have : ∀ m, bc m (2 ^ h) = if h < m then 1 else 0 := by
    intro m
    induction m with
    | zero => rfl
    | succ m ih =>
      simp only [bc, ih, Nat.testBit_two_pow]
      by_cases h1 : h = m
      · subst h1; simp
      · by_cases h2 : h < m
        · simp [h1, h2, show h < m + 1 by omega]
        · simp [h1, h2, show ¬ h < m + 1 by omega]
  rw [this, if_pos hh]
/-- a set of none is none -/
theorem bc_z {s : Nat} (hs : s < 2048) (h : bc 11 s = 0) : s = 0 := by
  rcases Nat.eq_zero_or_pos s with q | q
  · exact q
  · exact absurd (bc_pos hs (by omega)) (by omega)
