/-! loops as functions: lists that are gathered, the first that is so, folds -/
def fm {α : Type} (f : Nat → List α) : Nat → Nat → List α
  | _, 0 => []
  | i, m + 1 => f i ++ fm f (i + 1) m
def fs (p : Nat → Bool) : Nat → Nat → Option Nat
  | _, 0 => none
  | i, m + 1 => if p i then some i else fs p (i + 1) m
def fo {α : Type} (f : Nat → α → α) : Nat → Nat → α → α
  | _, 0, z => z
  | i, m + 1, z => fo f (i + 1) m (f i z)
theorem fm_st {α : Type} {f : Nat → List α} {i n : Nat} (h : i < n) : fm f i (n - i) = f i ++ fm f (i + 1) (n - (i + 1)) := by
  rw [show n - i = (n - (i + 1)) + 1 by omega]; rfl
theorem fs_st {p : Nat → Bool} {i n : Nat} (h : i < n) : fs p i (n - i) = if p i then some i else fs p (i + 1) (n - (i + 1)) := by
  rw [show n - i = (n - (i + 1)) + 1 by omega]; rfl
theorem fo_st {α : Type} {f : Nat → α → α} {i n : Nat} {z : α} (h : i < n) : fo f i (n - i) z = fo f (i + 1) (n - (i + 1)) (f i z) := by
  rw [show n - i = (n - (i + 1)) + 1 by omega]; rfl
theorem fm_nd {α : Type} {f : Nat → List α} {i n : Nat} (h : n ≤ i) : fm f i (n - i) = [] := by
  rw [show n - i = 0 by omega]; rfl
theorem fs_nd {p : Nat → Bool} {i n : Nat} (h : n ≤ i) : fs p i (n - i) = none := by
  rw [show n - i = 0 by omega]; rfl
theorem fo_nd {α : Type} {f : Nat → α → α} {i n : Nat} {z : α} (h : n ≤ i) : fo f i (n - i) z = z := by
  rw [show n - i = 0 by omega]; rfl
theorem fs_some {p : Nat → Bool} {x : Nat} : ∀ {m i : Nat}, fs p i m = some x → i ≤ x ∧ x < i + m ∧ p x = true ∧ ∀ j, i ≤ j → j < x → p j = false := by
  intro m
  induction m with
  | zero => intro i h; cases h
  | succ m ih =>
    intro i h
    simp only [fs] at h
    by_cases hp : p i = true
    · rw [if_pos hp] at h; cases h; exact ⟨by omega, by omega, hp, fun j h1 h2 => by omega⟩
    · rw [if_neg hp] at h
      obtain ⟨h1, h2, h3, h4⟩ := ih h
      refine ⟨by omega, by omega, h3, fun j h5 h6 => ?_⟩
      by_cases hj : j = i
      · subst hj; simpa using hp
      · exact h4 j (by omega) h6
theorem fs_none {p : Nat → Bool} : ∀ {m i : Nat}, fs p i m = none ↔ ∀ j, i ≤ j → j < i + m → p j = false := by
  intro m
  induction m with
  | zero => intro i; exact ⟨fun _ j h1 h2 => by omega, fun _ => rfl⟩
  | succ m ih =>
    intro i
    simp only [fs]
    by_cases hp : p i = true
    · rw [if_pos hp]
      constructor
      · intro h; cases h
      · intro h; rw [h i (by omega) (by omega)] at hp; cases hp
    · rw [if_neg hp, ih]
      constructor
      · intro h j h1 h2
        by_cases hj : j = i
        · subst hj; simpa using hp
        · exact h j (by omega) (by omega)
      · intro h j h1 h2; exact h j (by omega) (by omega)
theorem fs_is {p : Nat → Bool} {x : Nat} {m i : Nat} (h1 : i ≤ x) (h2 : x < i + m) (h3 : p x = true) (h4 : ∀ j, i ≤ j → j < x → p j = false) : fs p i m = some x := by
  cases hf : fs p i m with
  | none => rw [fs_none.mp hf x h1 h2] at h3; cases h3
  | some y =>
    obtain ⟨g1, g2, g3, g4⟩ := fs_some hf
    rcases Nat.lt_trichotomy x y with q | q | q
    · rw [g4 x h1 q] at h3; cases h3
    · rw [q]
    · rw [h4 y g1 q] at g3; cases g3
theorem fm_mem {α : Type} {f : Nat → List α} {x : α} : ∀ {m i : Nat}, x ∈ fm f i m ↔ ∃ j, i ≤ j ∧ j < i + m ∧ x ∈ f j := by
  intro m
  induction m with
  | zero => intro i; simp [fm]; intro j h1 h2; omega
  | succ m ih =>
    intro i
    simp only [fm, List.mem_append, ih]
    constructor
    · rintro (h | ⟨j, h1, h2, h3⟩)
      · exact ⟨i, by omega, by omega, h⟩
      · exact ⟨j, by omega, by omega, h3⟩
    · rintro ⟨j, h1, h2, h3⟩
      by_cases hj : j = i
      · subst hj; exact Or.inl h3
      · exact Or.inr ⟨j, by omega, by omega, h3⟩
theorem fm_congr {α : Type} {f g : Nat → List α} : ∀ {m i : Nat}, (∀ j, i ≤ j → j < i + m → f j = g j) → fm f i m = fm g i m := by
  intro m
  induction m with
  | zero => intro i _; rfl
  | succ m ih => intro i h; simp only [fm]; rw [h i (by omega) (by omega), ih (fun j h1 h2 => h j (by omega) (by omega))]
theorem fo_congr {α : Type} {f g : Nat → α → α} : ∀ {m i : Nat} {z : α}, (∀ j z, i ≤ j → j < i + m → f j z = g j z) → fo f i m z = fo g i m z := by
  intro m
  induction m with
  | zero => intro i z _; rfl
  | succ m ih => intro i z h; simp only [fo]; rw [h i z (by omega) (by omega), ih (fun j z h1 h2 => h j z (by omega) (by omega))]
theorem fs_congr {p q : Nat → Bool} : ∀ {m i : Nat}, (∀ j, i ≤ j → j < i + m → p j = q j) → fs p i m = fs q i m := by
  intro m
  induction m with
  | zero => intro i _; rfl
  | succ m ih => intro i h; simp only [fs]; rw [h i (by omega) (by omega), ih (fun j h1 h2 => h j (by omega) (by omega))]
/-- ranges of arguments -/
def rgc (lo hi : Nat) (x : Int32) : Bool := decide (lN lo ≤ x.toInt64) && decide (x.toInt64 ≤ lN hi)
theorem lN_toI {n : Nat} (h : n < 2 ^ 31) : (lN n).toInt = n := by
  have := Int32.toInt_toInt64 (nI n)
  rw [nI_l h, nI_toInt h] at this
  exact this
theorem rg_iff {lo hi : Nat} {x : Int32} (h1 : lo < 2 ^ 31) (h2 : hi < 2 ^ 31) : rgc lo hi x = true ↔ (lo : Int) ≤ x.toInt ∧ x.toInt ≤ hi := by
  unfold rgc
  rw [Bool.and_eq_true, decide_eq_true_eq, decide_eq_true_eq, fa_le64, fa_le64, Int32.toInt_toInt64, lN_toI h1, lN_toI h2]
theorem rg_of {lo hi : Nat} {x : Int32} (h : rgc lo hi x = true) (h2 : hi < 2 ^ 31) (h1 : lo < 2 ^ 31) : ∃ i, lo ≤ i ∧ i ≤ hi ∧ x = nI i := by
  rw [rg_iff h1 h2] at h
  refine ⟨x.toInt.toNat, by omega, by omega, ?_⟩
  apply Int32.toInt_inj.mp
  rw [nI_toInt (by omega)]
  omega
theorem rg_ni {lo hi i : Nat} (h1 : lo ≤ i) (h2 : i ≤ hi) (h3 : hi < 2 ^ 31) : rgc lo hi (nI i) = true := by
  rw [rg_iff (by omega) h3, nI_toInt (by omega)]
  omega
/-- a change of longs alone -/
def frl (l : Nat) (σ τ : px_M) : Prop := τ.1 = σ.1 ∧ (∀ m, m ≠ l → τ.2.1 m = σ.2.1 m) ∧ τ.2.2 = σ.2.2
theorem frl_rf (l : Nat) (σ : px_M) : frl l σ σ := ⟨rfl, fun _ _ => rfl, rfl⟩
theorem frl_up {l : Nat} {σ τ : px_M} (h : frl l σ τ) (i : Nat) (v : Int64) : frl l σ (τ.1, px_up τ.2.1 l i v, τ.2.2) := ⟨h.1, fun m hm => by show px_up τ.2.1 l i v m = _; rw [px_up_row hm]; exact h.2.1 m hm, h.2.2⟩
theorem up_rowl {f : Nat → Nat → Int64} {l i : Nat} {v : Int64} : px_up f l i v l = fun j => if j = i then v else f l j := by
  funext j
  simp [px_up]
/-- distances that stay -/
theorem fd_stay {nb : Nat → Nat} {n a M : Nat} (ha : a < 11) (h : ∀ j, j < n → nb j < 2048) (hM : ly nb n a (M + 1) = 0) (x : Nat) : ∀ i, fd nb n a (M + i) x = fd nb n a M x := by
  intro i
  induction i with
  | zero => rfl
  | succ i ih =>
    show (if (ly nb n a (M + i + 1)).testBit x then M + i + 1 else fd nb n a (M + i) x) = _
    rw [show M + i + 1 = M + 1 + i by omega, ly_stay ha h hM i, ih]
    simp
/-- how far two are; 99 -/
def dd (r : Nat → Int32) (a b : Nat) : Nat := fd (tB r) (tN r) a 10 b
theorem fz_dd {r : Nat → Int32} {a : Nat} {row : Nat → Int32} (ht : tok r) (ha : a < 11) (hf : fz r a row) {h : Nat} (hh : h < 11) : row h = nI (dd r a h) := by
  obtain ⟨hn, -, -, hlt⟩ := ht
  obtain ⟨M, h1, h2, h3, h4⟩ := hf
  have := fd_stay ha (fun j hj => hlt j (by omega)) h3 h (10 - M)
  rw [show M + (10 - M) = 10 by omega] at this
  rw [h1 h hh, dd, this]
theorem dd_le (r : Nat → Int32) (a b : Nat) : dd r a b ≤ 99 := fd_le b (by omega)
theorem dd_10 (r : Nat → Int32) (a b : Nat) : dd r a b ≤ 10 ∨ dd r a b = 99 := by
  unfold dd
  have key : ∀ M, fd (tB r) (tN r) a M b ≤ M ∨ fd (tB r) (tN r) a M b = 99 := by
    intro M
    induction M with
    | zero => simp only [fd]; split <;> omega
    | succ M ih => simp only [fd]; split <;> omega
  exact key 10
