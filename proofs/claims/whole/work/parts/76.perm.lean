/-! numberings: permutations and marks -/
def pm (n : Nat) (p : Nat → Nat) : Prop := (∀ i, i < n → p i < n) ∧ ∀ i j, i < n → j < n → p i = p j → i = j
/-- those taken by the first -/
def tk (p : Nat → Nat) : Nat → Nat
  | 0 => 0
  | m + 1 => tk p m ||| 2 ^ p m
theorem tk_tb (p : Nat → Nat) (x : Nat) : ∀ m, (tk p m).testBit x = true ↔ ∃ i, i < m ∧ p i = x := by
  intro m
  induction m with
  | zero => simp [tk]
  | succ m ih =>
    simp only [tk, Nat.testBit_or, Bool.or_eq_true, ih, Nat.testBit_two_pow, decide_eq_true_eq]
    constructor
    · rintro (⟨i, h1, h2⟩ | h)
      · exact ⟨i, by omega, h2⟩
      · exact ⟨m, by omega, h⟩
    · rintro ⟨i, h1, h2⟩
      by_cases q : i = m
      · subst q; exact Or.inr h2
      · exact Or.inl ⟨i, by omega, h2⟩
theorem tk_lt {n : Nat} {p : Nat → Nat} {m : Nat} (h : ∀ i, i < m → p i < n) : tk p m < 2 ^ n := lt_tb (fun x hx => by
  obtain ⟨i, h1, h2⟩ := (tk_tb p x m).mp hx
  rw [← h2]; exact h i h1)
theorem tk_congr {p q : Nat → Nat} : ∀ {m : Nat}, (∀ i, i < m → p i = q i) → tk p m = tk q m := by
  intro m
  induction m with
  | zero => intro _; rfl
  | succ m ih => intro h; simp only [tk]; rw [ih (fun i hi => h i (by omega)), h m (by omega)]
theorem tk_bc {n : Nat} (hn : n ≤ 11) {p : Nat → Nat} : ∀ {m : Nat}, m ≤ n → (∀ i, i < m → p i < n) → (∀ i j, i < m → j < m → p i = p j → i = j) → bc 11 (tk p m) = m := by
  intro m
  induction m with
  | zero => intro _ _ _; exact bc_0 11
  | succ m ih =>
    intro hm h1 h2
    have := ih (by omega) (fun i hi => h1 i (by omega)) (fun i j hi hj => h2 i j (by omega) (by omega))
    simp only [tk]
    rw [bc_one (by have := h1 m (by omega); omega), this]
    cases q : (tk p m).testBit (p m) with
    | false => rfl
    | true =>
      obtain ⟨i, z1, z2⟩ := (tk_tb p _ m).mp q
      have := h2 i m (by omega) (by omega) z2
      omega
theorem pm_sur {n : Nat} (hn : n ≤ 11) {p : Nat → Nat} (hp : pm n p) {x : Nat} (hx : x < n) : ∃ i, i < n ∧ p i = x := by
  have h1 := tk_bc hn (Nat.le_refl n) hp.1 hp.2
  apply Classical.byContradiction
  intro hno
  have h2 : (tk p n).testBit x = false := by
    cases q : (tk p n).testBit x with
    | false => rfl
    | true => exact absurd ((tk_tb p x n).mp q) hno
  have hlt := tk_lt hp.1
  have h3 := bc_ssub (s := tk p n) (u := 2 ^ n - 1) (al_lt hn) (fun i hi => by rw [tb_all, decide_eq_true (tb_lt hlt hi)]) (fun e => by
    rw [e, tb_all, decide_eq_true hx] at h2; cases h2)
  have h4 : bc 11 (2 ^ n - 1) ≤ n := by
    rw [bc_11 hn (by have := Nat.two_pow_pos n; omega)]; exact bc_le n _
  omega
noncomputable def inv (n : Nat) (p : Nat → Nat) (x : Nat) : Nat := if h : ∃ i, i < n ∧ p i = x then Classical.choose h else 0
theorem inv_1 {n : Nat} (hn : n ≤ 11) {p : Nat → Nat} (hp : pm n p) {x : Nat} (hx : x < n) : inv n p x < n ∧ p (inv n p x) = x := by
  have h := pm_sur hn hp hx
  unfold inv
  rw [dif_pos h]
  exact Classical.choose_spec h
theorem inv_2 {n : Nat} (hn : n ≤ 11) {p : Nat → Nat} (hp : pm n p) {i : Nat} (hi : i < n) : inv n p (p i) = i := by
  obtain ⟨h1, h2⟩ := inv_1 hn hp (hp.1 i hi)
  exact hp.2 _ _ h1 hi h2
theorem inv_pm {n : Nat} (hn : n ≤ 11) {p : Nat → Nat} (hp : pm n p) : pm n (inv n p) := ⟨fun i hi => (inv_1 hn hp hi).1, fun i j hi hj e => by
  have h1 := (inv_1 hn hp hi).2
  have h2 := (inv_1 hn hp hj).2
  rw [← h1, ← h2, e]⟩
theorem pm_id (n : Nat) : pm n (fun i => i) := ⟨fun _ h => h, fun _ _ _ _ h => h⟩
/-- the place of a pair's bit -/
def ofs (j : Nat) : Nat := j * (j - 1) / 2
def eb (a b : Nat) : Nat := if b ≤ a then ofs a + b else ofs b + a
theorem eb_comm (a b : Nat) : eb a b = eb b a := by
  unfold eb
  by_cases h : a = b
  · subst h; rfl
  · by_cases h1 : b ≤ a
    · rw [if_pos h1, if_neg (by omega)]
    · rw [if_neg h1, if_pos (by omega)]
theorem ofs_t : ∀ j, j < 7 → ofs (j + 1) = ofs j + j ∧ ofs j ≤ 15 := by decide
/-- the mark of a numbering: place to house -/
def mkS (B : Nat → Nat) (p : Nat → Nat) : Nat → Nat
  | 0 => 0
  | j + 1 => mkS B p j ||| (bs (fun i => (B (p i)).testBit (p j)) j <<< ofs j)
/-- the mark of a numbering: house to place -/
def mki (B : Nat → Nat) (q : Nat → Nat) (h : Nat) : Nat → Nat
  | 0 => 0
  | k + 1 => mki B q h k ||| (if (B h).testBit k = true then 2 ^ eb (q h) (q k) else 0)
def mkM (B : Nat → Nat) (q : Nat → Nat) : Nat → Nat
  | 0 => 0
  | h + 1 => mkM B q h ||| mki B q h h
theorem mkS_lt (B : Nat → Nat) (p : Nat → Nat) : ∀ m, m ≤ 6 → mkS B p m < 2 ^ ofs m := by
  intro m
  induction m with
  | zero => intro _; exact (by decide : 0 < 2 ^ 0)
  | succ m ih =>
    intro hm
    have h1 := ih (by omega)
    have h2 : bs (fun i => (B (p i)).testBit (p m)) m < 2 ^ m := bs_2n _ (Nat.le_refl m)
    have h3 := (ofs_t m (by omega)).1
    simp only [mkS]
    rw [h3]
    refine Nat.or_lt_two_pow (Nat.lt_of_lt_of_le h1 (Nat.pow_le_pow_right (by omega) (by omega))) ?_
    rw [Nat.shiftLeft_eq, Nat.pow_add, Nat.mul_comm]
    exact Nat.mul_lt_mul_of_pos_left h2 (Nat.two_pow_pos _)
theorem mkS_15 {B p : Nat → Nat} {m : Nat} (hm : m ≤ 6) : mkS B p m < 32768 := by
  have h1 := mkS_lt B p m hm
  have h2 := (ofs_t m (by omega)).2
  have h3 : 2 ^ ofs m ≤ 2 ^ 15 := Nat.pow_le_pow_right (by omega) h2
  omega
theorem mkS_congr {B p q : Nat → Nat} : ∀ {m : Nat}, (∀ i, i < m → p i = q i) → mkS B p m = mkS B q m := by
  intro m
  induction m with
  | zero => intro _; rfl
  | succ m ih =>
    intro h
    simp only [mkS]
    rw [ih (fun i hi => h i (by omega))]
    have : bs (fun i => (B (p i)).testBit (p m)) m = bs (fun i => (B (q i)).testBit (q m)) m := by
      apply tb_eq
      intro i
      rw [bs_tb, bs_tb, Bool.and_eq_true, Bool.and_eq_true, decide_eq_true_eq]
      constructor
      · rintro ⟨h1, h2⟩; exact ⟨h1, by rw [← h i (by omega), ← h m (by omega)]; exact h2⟩
      · rintro ⟨h1, h2⟩; exact ⟨h1, by rw [h i (by omega), h m (by omega)]; exact h2⟩
    rw [this]
theorem mki_congr {B p q : Nat → Nat} {h : Nat} (hh : p h = q h) : ∀ {k : Nat}, (∀ i, i < k → p i = q i) → mki B p h k = mki B q h k := by
  intro k
  induction k with
  | zero => intro _; rfl
  | succ k ih => intro e; simp only [mki]; rw [ih (fun i hi => e i (by omega)), hh, e k (by omega)]
theorem mkM_congr {B p q : Nat → Nat} : ∀ {m : Nat}, (∀ i, i < m → p i = q i) → mkM B p m = mkM B q m := by
  intro m
  induction m with
  | zero => intro _; rfl
  | succ m ih => intro e; simp only [mkM]; rw [ih (fun i hi => e i (by omega)), mki_congr (e m (by omega)) (fun i hi => e i (by omega))]
theorem mkS_tb (B p : Nat → Nat) (x : Nat) : ∀ m, (mkS B p m).testBit x = true ↔ ∃ i j, i < j ∧ j < m ∧ (B (p i)).testBit (p j) = true ∧ x = eb i j := by
  intro m
  induction m with
  | zero =>
    simp only [mkS, Nat.zero_testBit]
    constructor
    · intro h; cases h
    · rintro ⟨i, j, h1, h2, -⟩; omega
  | succ m ih =>
    simp only [mkS, Nat.testBit_or, Bool.or_eq_true, ih, Nat.testBit_shiftLeft, Bool.and_eq_true, decide_eq_true_eq]
    rw [bs_tb, Bool.and_eq_true, decide_eq_true_eq]
    constructor
    · rintro (⟨i, j, h1, h2, h3⟩ | ⟨h1, h2, h3⟩)
      · exact ⟨i, j, h1, by omega, h3⟩
      · refine ⟨x - ofs m, m, h2, by omega, h3, ?_⟩
        unfold eb
        rw [if_neg (by omega)]
        omega
    · rintro ⟨i, j, h1, h2, h3, h4⟩
      by_cases q : j = m
      · subst q
        unfold eb at h4
        rw [if_neg (by omega)] at h4
        have e : x - ofs j = i := by omega
        exact Or.inr ⟨by omega, by omega, by rw [e]; exact h3⟩
      · exact Or.inl ⟨i, j, h1, by omega, h3, h4⟩
theorem mki_tb (B q : Nat → Nat) (h x : Nat) : ∀ k, (mki B q h k).testBit x = true ↔ ∃ i, i < k ∧ (B h).testBit i = true ∧ x = eb (q h) (q i) := by
  intro k
  induction k with
  | zero =>
    simp only [mki, Nat.zero_testBit]
    constructor
    · intro h; cases h
    · rintro ⟨i, h1, -⟩; omega
  | succ k ih =>
    simp only [mki, Nat.testBit_or, Bool.or_eq_true, ih]
    constructor
    · rintro (⟨i, h1, h2⟩ | h1)
      · exact ⟨i, by omega, h2⟩
      · by_cases hb : (B h).testBit k = true
        · rw [if_pos hb, Nat.testBit_two_pow, decide_eq_true_eq] at h1
          exact ⟨k, by omega, hb, h1.symm⟩
        · rw [if_neg hb, Nat.zero_testBit] at h1; cases h1
    · rintro ⟨i, h1, h2, h3⟩
      by_cases e : i = k
      · subst e
        rw [if_pos h2, Nat.testBit_two_pow, decide_eq_true_eq]
        exact Or.inr h3.symm
      · exact Or.inl ⟨i, by omega, h2, h3⟩
theorem mkM_tb (B q : Nat → Nat) (x : Nat) : ∀ m, (mkM B q m).testBit x = true ↔ ∃ h i, i < h ∧ h < m ∧ (B h).testBit i = true ∧ x = eb (q h) (q i) := by
  intro m
  induction m with
  | zero =>
    simp only [mkM, Nat.zero_testBit]
    constructor
    · intro h; cases h
    · rintro ⟨h, i, h1, h2, -⟩; omega
  | succ m ih =>
    simp only [mkM, Nat.testBit_or, Bool.or_eq_true, ih, mki_tb]
    constructor
    · rintro (⟨h, i, h1, h2, h3⟩ | ⟨i, h1, h2⟩)
      · exact ⟨h, i, h1, by omega, h3⟩
      · exact ⟨m, i, h1, by omega, h2⟩
    · rintro ⟨h, i, h1, h2, h3⟩
      by_cases e : h = m
      · subst e; exact Or.inr ⟨i, h1, h3⟩
      · exact Or.inl ⟨h, i, h1, by omega, h3⟩
/-- the two marks are one -/
theorem mk_inv {n : Nat} {B : Nat → Nat} (hw : wf n B) {q : Nat → Nat} (hq : pm n q) : mkM B q n = mkS B (inv n q) n := by
  have hn := hw.1
  apply tb_eq
  intro x
  rw [mkM_tb, mkS_tb]
  constructor
  · rintro ⟨h, i, h1, h2, h3, rfl⟩
    have a1 := hq.1 h h2
    have a2 := hq.1 i (by omega)
    have a3 : q h ≠ q i := fun e => by have := hq.2 h i h2 (by omega) e; omega
    by_cases c : q i < q h
    · refine ⟨q i, q h, c, a1, ?_, eb_comm _ _⟩
      rw [inv_2 hn hq (by omega), inv_2 hn hq h2]; exact wf_s hw h3
    · refine ⟨q h, q i, by omega, a2, ?_, rfl⟩
      rw [inv_2 hn hq h2, inv_2 hn hq (show i < n by omega)]; exact h3
  · rintro ⟨i, j, h1, h2, h3, rfl⟩
    obtain ⟨b1, b2⟩ := inv_1 hn hq h2
    obtain ⟨b3, b4⟩ := inv_1 hn hq (show i < n by omega)
    have a3 : inv n q i ≠ inv n q j := fun e => by rw [e, b2] at b4; omega
    by_cases c : inv n q i < inv n q j
    · exact ⟨inv n q j, inv n q i, c, b1, wf_s hw h3, by rw [b2, b4]; exact eb_comm _ _⟩
    · exact ⟨inv n q i, inv n q j, by omega, b3, h3, by rw [b2, b4]⟩
/-- the least mark among some, and one known before -/
def LO (mk : (Nat → Nat) → Nat) (Q : (Nat → Nat) → Prop) (L L' : Option Nat) : Prop := (∀ p, Q p → ∃ v, L' = some v ∧ v ≤ mk p) ∧ (∀ v, L = some v → ∃ v', L' = some v' ∧ v' ≤ v) ∧ ∀ v', L' = some v' → L = some v' ∨ ∃ p, Q p ∧ mk p = v'
theorem LO_no {mk : (Nat → Nat) → Nat} {Q : (Nat → Nat) → Prop} (h : ∀ p, ¬ Q p) (L : Option Nat) : LO mk Q L L := ⟨fun p hp => absurd hp (h p), fun v hv => ⟨v, hv, Nat.le_refl _⟩, fun v hv => Or.inl hv⟩
theorem LO_tr {mk : (Nat → Nat) → Nat} {Q1 Q2 Q : (Nat → Nat) → Prop} {L L1 L2 : Option Nat} (hQ : ∀ p, Q p ↔ Q1 p ∨ Q2 p) (h1 : LO mk Q1 L L1) (h2 : LO mk Q2 L1 L2) : LO mk Q L L2 := by
  obtain ⟨a1, a2, a3⟩ := h1
  obtain ⟨b1, b2, b3⟩ := h2
  refine ⟨fun p hp => ?_, fun v hv => ?_, fun v hv => ?_⟩
  · rcases (hQ p).mp hp with q | q
    · obtain ⟨v, e, hle⟩ := a1 p q
      obtain ⟨v', e', hle'⟩ := b2 v e
      exact ⟨v', e', by omega⟩
    · exact b1 p q
  · obtain ⟨v1, e, hle⟩ := a2 v hv
    obtain ⟨v', e', hle'⟩ := b2 v1 e
    exact ⟨v', e', by omega⟩
  · rcases b3 v hv with q | ⟨p, q, e⟩
    · rcases a3 v q with z | ⟨p, z, e⟩
      · exact Or.inl z
      · exact Or.inr ⟨p, (hQ p).mpr (Or.inl z), e⟩
    · exact Or.inr ⟨p, (hQ p).mpr (Or.inr q), e⟩
theorem LO_cg {mk : (Nat → Nat) → Nat} {Q1 Q : (Nat → Nat) → Prop} {L L1 : Option Nat} (hQ : ∀ p, Q p ↔ Q1 p) (h1 : LO mk Q1 L L1) : LO mk Q L L1 := LO_tr (Q2 := fun _ => False) (fun p => by rw [hQ p]; simp) h1 (LO_no (fun _ h => h) _)
def lmin (L : Option Nat) (v : Nat) : Option Nat := match L with
  | none => some v
  | some u => some (if v < u then v else u)
theorem LO_one {mk : (Nat → Nat) → Nat} {Q : (Nat → Nat) → Prop} {v : Nat} (L : Option Nat) (h1 : ∀ p, Q p → mk p = v) (h2 : ∃ p, Q p) : LO mk Q L (lmin L v) := by
  obtain ⟨p0, hp0⟩ := h2
  cases L with
  | none =>
    refine ⟨fun p hp => ⟨v, rfl, by rw [h1 p hp]; exact Nat.le_refl _⟩, fun u hu => (by cases hu), fun u hu => Or.inr ⟨p0, hp0, ?_⟩⟩
    cases hu; exact h1 p0 hp0
  | some u =>
    refine ⟨fun p hp => ⟨_, rfl, by rw [h1 p hp]; split <;> omega⟩, fun w hw => ⟨_, rfl, by cases hw; split <;> omega⟩, fun w hw => ?_⟩
    simp only [lmin, Option.some.injEq] at hw
    by_cases q : v < u
    · rw [if_pos q] at hw; exact Or.inr ⟨p0, hp0, by rw [h1 p0 hp0]; exact hw⟩
    · rw [if_neg q] at hw; exact Or.inl (by rw [hw])
theorem LO_uniq {mk mk' : (Nat → Nat) → Nat} {Q Q' : (Nat → Nat) → Prop} {L L' : Option Nat} (h1 : LO mk Q none L) (h2 : LO mk' Q' none L') (h3 : ∀ p, Q p → ∃ q, Q' q ∧ mk' q = mk p) (h4 : ∀ q, Q' q → ∃ p, Q p ∧ mk p = mk' q) (h5 : ∃ p, Q p) : L = L' := by
  obtain ⟨p0, hp0⟩ := h5
  obtain ⟨v, e, -⟩ := h1.1 p0 hp0
  obtain ⟨q0, hq0, -⟩ := h3 p0 hp0
  obtain ⟨v', e', -⟩ := h2.1 q0 hq0
  have a1 : v' ≤ v := by
    rcases h1.2.2 v e with z | ⟨p, hp, ep⟩
    · cases z
    · obtain ⟨q, hq, eq⟩ := h3 p hp
      obtain ⟨u, hu, hle⟩ := h2.1 q hq
      rw [e'] at hu
      cases hu
      omega
  have a2 : v ≤ v' := by
    rcases h2.2.2 v' e' with z | ⟨q, hq, eq⟩
    · cases z
    · obtain ⟨p, hp, ep⟩ := h4 q hq
      obtain ⟨u, hu, hle⟩ := h1.1 p hp
      rw [e] at hu
      cases hu
      omega
  rw [e, e', show v = v' by omega]
