/-! halves -/
/-- the town within a set -/
def rs (B : Nat → Nat) (s : Nat) : Nat → Nat := fun x => if s.testBit x then B x &&& s else 0
theorem rs_tb (B : Nat → Nat) (s x y : Nat) : (rs B s x).testBit y = ((B x).testBit y && s.testBit x && s.testBit y) := by
  unfold rs
  cases h : s.testBit x
  · simp
  · simp [Nat.testBit_and]
section
variable {σ τ : px_M} {t n : Nat} {B : Nat → Nat}
theorem wf_rs (hw : wf n B) (s : Nat) : wf n (rs B s) := wf_of hw.1 (fun a b h => by
    rw [rs_tb] at h
    simp only [Bool.and_eq_true] at h
    exact ⟨wf_l hw h.1.1, wf_r hw h.1.1⟩) (fun a b => by
    rw [rs_tb, rs_tb, hw.2.2.2.1 a b]
    cases (B b).testBit a <;> cases s.testBit a <;> cases s.testBit b <;> rfl) (fun a => by rw [rs_tb, hw.2.2.2.2 a]; rfl)
theorem rs_all (hw : wf n B) : rs B (2 ^ n - 1) = B := by
  funext x
  apply Nat.eq_of_testBit_eq
  intro y
  rw [rs_tb, tb_all, tb_all]
  cases h : (B x).testBit y
  · rfl
  · simp [wf_l hw h, wf_r hw h]
theorem ar_rs {s u : Nat} (hu : ∀ x, u.testBit x = true → s.testBit x = true) : ar B n u &&& s = ar (rs B s) n u := by
  apply tb_eq
  intro y
  rw [Nat.testBit_and, Bool.and_eq_true, ar_tb, ar_tb]
  constructor
  · rintro ⟨⟨x, h1, h2, h3⟩, h4⟩
    exact ⟨x, h1, h2, by rw [rs_tb, h3, hu x h2, h4]; rfl⟩
  · rintro ⟨x, h1, h2, h3⟩
    rw [rs_tb] at h3
    simp only [Bool.and_eq_true] at h3
    exact ⟨⟨x, h1, h2, h3.1.1⟩, h3.2⟩
/-- what is reached in an even number of steps -/
def hr (B : Nat → Nat) (n h : Nat) : Nat → Nat
  | 0 => 2 ^ h
  | i + 1 => hr B n h i ||| ar B n (ar B n (hr B n h i))
def tj (B : Nat → Nat) (n h : Nat) : Nat → Nat
  | 0 => 0
  | i + 1 => ar B n (hr B n h i)
theorem hr_wk (h x : Nat) : ∀ i, (hr B n h i).testBit x = true ↔ ∃ j, j ≤ i ∧ (wk B n h (2 * j)).testBit x = true := by
  intro i
  induction i generalizing x with
  | zero =>
    constructor
    · intro q; exact ⟨0, Nat.le_refl _, q⟩
    · rintro ⟨j, h1, h2⟩
      have : j = 0 := by omega
      subst this; exact h2
  | succ i ih =>
    simp only [hr, Nat.testBit_or, Bool.or_eq_true]
    rw [ih, ar_tb]
    constructor
    · rintro (⟨j, h1, h2⟩ | ⟨y, h1, h2, h3⟩)
      · exact ⟨j, by omega, h2⟩
      · obtain ⟨z, z1, z2, z3⟩ := ar_tb.mp h2
        obtain ⟨j, h4, h5⟩ := (ih z).mp z2
        refine ⟨j + 1, by omega, ?_⟩
        rw [show 2 * (j + 1) = (2 * j + 1) + 1 by omega]
        exact (wk_S h (2 * j + 1) x).mpr ⟨y, h1, (wk_S h (2 * j) y).mpr ⟨z, z1, h5, z3⟩, h3⟩
    · rintro ⟨j, h1, h2⟩
      by_cases hj : j ≤ i
      · exact Or.inl ⟨j, hj, h2⟩
      · have : j = i + 1 := by omega
        subst this
        rw [show 2 * (i + 1) = (2 * i + 1) + 1 by omega] at h2
        obtain ⟨y, y1, y2, y3⟩ := (wk_S h (2 * i + 1) x).mp h2
        obtain ⟨z, z1, z2, z3⟩ := (wk_S h (2 * i) y).mp y2
        exact Or.inr ⟨y, y1, ar_tb.mpr ⟨z, z1, (ih z).mpr ⟨i, Nat.le_refl _, z2⟩, z3⟩, y3⟩
theorem hr_lt (hw : wf n B) {h : Nat} (hh : h < n) (i : Nat) : hr B n h i < 2 ^ n := lt_tb (fun x hx => by
  obtain ⟨j, -, h2⟩ := (hr_wk h x i).mp hx
  exact wk_in hw hh h2)
theorem bc_ssub {s u : Nat} (hu : u < 2048) (h : ∀ i, s.testBit i = true → u.testBit i = true) (hne : s ≠ u) : bc 11 s < bc 11 u := by
  have : ∃ i, u.testBit i = true ∧ s.testBit i = false := by
    apply Classical.byContradiction
    intro hq
    apply hne
    apply tb_eq
    intro i
    refine ⟨h i, fun q => ?_⟩
    cases hb : s.testBit i with
    | true => rfl
    | false => exact absurd ⟨i, q, hb⟩ hq
  obtain ⟨i, h1, h2⟩ := this
  have hi : i < 11 := tb_lt (n := 11) hu h1
  have h3 := bc_one (j := 11) hi h2
  have h4 : bc 11 (s ||| 2 ^ i) ≤ bc 11 u := bc_mono (fun x hx => by
    rw [Nat.testBit_or, Bool.or_eq_true, Nat.testBit_two_pow, decide_eq_true_eq] at hx
    rcases hx with hx | hx
    · exact h x hx
    · rw [← hx]; exact h1) 11
  omega
theorem hr_sub (h i x : Nat) (hx : (hr B n h i).testBit x = true) : (hr B n h (i + 1)).testBit x = true := by
  simp only [hr, Nat.testBit_or, hx, Bool.true_or]
theorem hr_stab {h i : Nat} (hq : hr B n h (i + 1) = hr B n h i) : ∀ k, hr B n h (i + k) = hr B n h i := by
  intro k
  induction k with
  | zero => rfl
  | succ k ih =>
    show hr B n h (i + k) ||| ar B n (ar B n (hr B n h (i + k))) = _
    rw [ih]
    exact hq
theorem hr_fix (hw : wf n B) {h : Nat} (hh : h < n) : ∃ i, i ≤ 10 ∧ hr B n h (i + 1) = hr B n h i := by
  apply Classical.byContradiction
  intro hq
  have hp := pw_le hw.1
  have key : ∀ m, m ≤ 11 → m + 1 ≤ bc 11 (hr B n h m) := by
    intro m
    induction m with
    | zero =>
      intro _
      have := bc_pos (b := hr B n h 0) (by have := hr_lt hw hh 0; omega) (by show ¬ 2 ^ h = 0; have := Nat.two_pow_pos h; omega)
      omega
    | succ m ih =>
      intro hm
      have := bc_ssub (s := hr B n h m) (u := hr B n h (m + 1)) (by have := hr_lt hw hh (m + 1); omega) (hr_sub h m) (fun q => hq ⟨m, by omega, q.symm⟩)
      have := ih (by omega)
      omega
  have := key 11 (by omega)
  have := bc_le 11 (hr B n h 11)
  omega
theorem hr_11 (hw : wf n B) {h : Nat} (hh : h < n) : hr B n h 10 = hr B n h 11 ∧ ∀ j, 11 ≤ j → hr B n h j = hr B n h 11 := by
  obtain ⟨i, h1, h2⟩ := hr_fix hw hh
  have hs := hr_stab h2
  have e : ∀ j, i ≤ j → hr B n h j = hr B n h i := fun j hj => by have := hs (j - i); rw [show i + (j - i) = j by omega] at this; exact this
  exact ⟨by rw [e 10 h1, e 11 (by omega)], fun j hj => by rw [e j (by omega), e 11 (by omega)]⟩
theorem hr_brk (hw : wf n B) {h i : Nat} (hh : h < n) (hi : i ≤ 11) (hq : ar B n (hr B n h i) = tj B n h i) : hr B n h i = hr B n h 11 := by
  have h1 : hr B n h (i + 1) = hr B n h i := by
    show hr B n h i ||| ar B n (ar B n (hr B n h i)) = _
    rw [hq]
    cases i with
    | zero =>
      have : ar B n (tj B n h 0) = 0 := by
        apply tb_eq
        intro x
        rw [ar_tb]
        simp [tj]
      rw [this, Nat.or_zero]
    | succ k =>
      show (hr B n h k ||| ar B n (ar B n (hr B n h k))) ||| ar B n (ar B n (hr B n h k)) = hr B n h k ||| ar B n (ar B n (hr B n h k))
      rw [Nat.or_assoc, Nat.or_self]
  have := hr_stab h1 (11 - i)
  rw [show i + (11 - i) = 11 by omega] at this
  exact this.symm
/-- the even part and the odd part that a house reaches -/
def eE (B : Nat → Nat) (n h : Nat) : Nat := hr B n h 11
def eO (B : Nat → Nat) (n h : Nat) : Nat := ar B n (hr B n h 11)
theorem eE_iff (hw : wf n B) {h : Nat} (hh : h < n) (x : Nat) : (eE B n h).testBit x = true ↔ ∃ m, m % 2 = 0 ∧ (wk B n h m).testBit x = true := by
  unfold eE
  constructor
  · intro q
    obtain ⟨j, -, h2⟩ := (hr_wk h x 11).mp q
    exact ⟨2 * j, by omega, h2⟩
  · rintro ⟨m, h1, h2⟩
    have h3 : (hr B n h (m / 2)).testBit x = true := (hr_wk h x (m / 2)).mpr ⟨m / 2, Nat.le_refl _, by rw [show 2 * (m / 2) = m by omega]; exact h2⟩
    by_cases hm : m / 2 ≤ 11
    · obtain ⟨j, j1, j2⟩ := (hr_wk h x (m / 2)).mp h3
      exact (hr_wk h x 11).mpr ⟨j, by omega, j2⟩
    · rw [← (hr_11 hw hh).2 (m / 2) (by omega)]; exact h3
theorem eO_iff (hw : wf n B) {h : Nat} (hh : h < n) (x : Nat) : (eO B n h).testBit x = true ↔ ∃ m, m % 2 = 1 ∧ (wk B n h m).testBit x = true := by
  unfold eO
  rw [ar_tb]
  constructor
  · rintro ⟨y, h1, h2, h3⟩
    obtain ⟨m, m1, m2⟩ := (eE_iff hw hh y).mp h2
    exact ⟨m + 1, by omega, (wk_S h m x).mpr ⟨y, h1, m2, h3⟩⟩
  · rintro ⟨m, h1, h2⟩
    obtain ⟨k, rfl⟩ : ∃ k, m = k + 1 := ⟨m - 1, by omega⟩
    obtain ⟨y, y1, y2, y3⟩ := (wk_S h k x).mp h2
    exact ⟨y, y1, (eE_iff hw hh y).mpr ⟨k, by omega, y2⟩, y3⟩
theorem eE_lt (hw : wf n B) {h : Nat} (hh : h < n) : eE B n h < 2 ^ n := hr_lt hw hh 11
theorem eO_lt (hw : wf n B) {h : Nat} : eO B n h < 2 ^ n := lt_tb (fun x hx => ar_n hw _ hx)
/-- both parts, house by house; none if one meets the other -/
def fh (B : Nat → Nat) (n s : Nat) : Nat → Option (Nat × Nat)
  | 0 => some (0, 0)
  | j + 1 => match fh B n s j with
    | none => none
    | some p => if s.testBit j = true ∧ p.1.testBit j = false ∧ p.2.testBit j = false then (if eE B n j &&& eO B n j = 0 then some (p.1 ||| eE B n j, p.2 ||| eO B n j) else none) else some p
theorem fh_none {s : Nat} : ∀ {i j : Nat}, fh B n s i = none → i ≤ j → fh B n s j = none := by
  intro i j h hij
  induction j with
  | zero => have : i = 0 := by omega
            subst this; exact h
  | succ j ih =>
    by_cases hi : i = j + 1
    · subst hi; exact h
    · simp only [fh, ih (by omega)]
theorem fh_lt (hw : wf n B) {s : Nat} : ∀ {j : Nat} {p : Nat × Nat}, j ≤ n → fh B n s j = some p → p.1 < 2 ^ n ∧ p.2 < 2 ^ n := by
  intro j
  induction j with
  | zero => intro p _ h; cases h; exact ⟨Nat.two_pow_pos n, Nat.two_pow_pos n⟩
  | succ j ih =>
    intro p hj h
    simp only [fh] at h
    cases hq : fh B n s j with
    | none => rw [hq] at h; cases h
    | some q =>
      rw [hq] at h
      dsimp only at h
      have hi := ih (by omega) hq
      split at h
      · split at h
        · cases h
          exact ⟨Nat.or_lt_two_pow hi.1 (eE_lt hw (by omega)), Nat.or_lt_two_pow hi.2 (eO_lt hw)⟩
        · cases h
      · cases h; exact hi
/-- two colours do -/
def two (B : Nat → Nat) : Prop := ∃ c : Nat → Bool, ∀ x y, (B x).testBit y = true → c x ≠ c y
theorem two_walk {c : Nat → Bool} (hc : ∀ x y, (B x).testBit y = true → c x ≠ c y) {h : Nat} : ∀ m x, (wk B n h m).testBit x = true → c x = (if m % 2 = 0 then c h else !c h) := by
  intro m
  induction m with
  | zero => intro x hx; rw [(wk_0 h x).mp hx]; rfl
  | succ m ih =>
    intro x hx
    obtain ⟨y, -, y2, y3⟩ := (wk_S h m x).mp hx
    have h1 := ih y y2
    have h2 := hc y x y3
    by_cases hm : m % 2 = 0
    · rw [if_pos hm] at h1
      rw [if_neg (by omega)]
      rw [h1] at h2
      cases hx' : c x <;> cases hh' : c h <;> simp_all
    · rw [if_neg hm] at h1
      rw [if_pos (by omega)]
      rw [h1] at h2
      cases hx' : c x <;> cases hh' : c h <;> simp_all
/-- what the parts are like while they grow -/
theorem fh_spec (hw : wf n B) {s : Nat} (hs : ∀ x y, (B x).testBit y = true → s.testBit x = true) : ∀ j, j ≤ n → ∀ p, fh B n s j = some p → (∀ x, ¬ (p.1.testBit x = true ∧ p.2.testBit x = true)) ∧ (∀ x y, (B x).testBit y = true → p.1.testBit x = true → p.2.testBit y = true) ∧ (∀ x y, (B x).testBit y = true → p.2.testBit x = true → p.1.testBit y = true) ∧ ∀ x, x < j → s.testBit x = true → p.1.testBit x = true ∨ p.2.testBit x = true := by
  intro j
  induction j with
  | zero => intro _ p h; cases h; exact ⟨fun x => by simp, fun x y _ => by simp, fun x y _ => by simp, fun x hx => absurd hx (by omega)⟩
  | succ j ih =>
    intro hj p h
    simp only [fh] at h
    cases hq : fh B n s j with
    | none => rw [hq] at h; cases h
    | some q =>
      rw [hq] at h
      dsimp only at h
      obtain ⟨i1, i2, i3, i4⟩ := ih (by omega) q hq
      have hjn : j < n := by omega
      split at h
      · rename_i hcond
        split at h
        · rename_i hEO
          cases h
          have hdis : ∀ x, ¬ ((eE B n j).testBit x = true ∧ (eO B n j).testBit x = true) := fun x hx => by
            have : (eE B n j &&& eO B n j).testBit x = true := by rw [Nat.testBit_and, hx.1, hx.2]; rfl
            rw [hEO] at this
            simp at this
          -- nothing that j reaches was there
          have hnew : ∀ m x, (wk B n j m).testBit x = true → q.1.testBit x = false ∧ q.2.testBit x = false := by
            intro m
            induction m with
            | zero => intro x hx; rw [(wk_0 j x).mp hx]; exact hcond.2
            | succ m ihm =>
              intro x hx
              obtain ⟨y, -, y2, y3⟩ := (wk_S j m x).mp hx
              obtain ⟨z1, z2⟩ := ihm y y2
              constructor
              · cases hb : q.1.testBit x with
                | false => rfl
                | true => rw [i2 x y (wf_s hw y3) hb] at z2; cases z2
              · cases hb : q.2.testBit x with
                | false => rfl
                | true => rw [i3 x y (wf_s hw y3) hb] at z1; cases z1
          have hEn : ∀ x, (eE B n j).testBit x = true → q.1.testBit x = false ∧ q.2.testBit x = false := fun x hx => by
            obtain ⟨m, -, m2⟩ := (eE_iff hw hjn x).mp hx
            exact hnew m x m2
          have hOn : ∀ x, (eO B n j).testBit x = true → q.1.testBit x = false ∧ q.2.testBit x = false := fun x hx => by
            obtain ⟨m, -, m2⟩ := (eO_iff hw hjn x).mp hx
            exact hnew m x m2
          refine ⟨fun x => ?_, fun x y hxy => ?_, fun x y hxy => ?_, fun x hx hsx => ?_⟩
          · simp only [Nat.testBit_or, Bool.or_eq_true]
            rintro ⟨h1 | h1, h2 | h2⟩
            · exact i1 x ⟨h1, h2⟩
            · rw [(hOn x h2).1] at h1; cases h1
            · rw [(hEn x h1).2] at h2; cases h2
            · exact hdis x ⟨h1, h2⟩
          · simp only [Nat.testBit_or, Bool.or_eq_true]
            rintro (h1 | h1)
            · exact Or.inl (i2 x y hxy h1)
            · obtain ⟨m, m1, m2⟩ := (eE_iff hw hjn x).mp h1
              exact Or.inr ((eO_iff hw hjn y).mpr ⟨m + 1, by omega, (wk_S j m y).mpr ⟨x, wf_l hw hxy, m2, hxy⟩⟩)
          · simp only [Nat.testBit_or, Bool.or_eq_true]
            rintro (h1 | h1)
            · exact Or.inl (i3 x y hxy h1)
            · obtain ⟨m, m1, m2⟩ := (eO_iff hw hjn x).mp h1
              exact Or.inr ((eE_iff hw hjn y).mpr ⟨m + 1, by omega, (wk_S j m y).mpr ⟨x, wf_l hw hxy, m2, hxy⟩⟩)
          · simp only [Nat.testBit_or, Bool.or_eq_true]
            by_cases hxj : x = j
            · subst hxj
              exact Or.inl (Or.inr ((eE_iff hw hjn x).mpr ⟨0, rfl, (wk_0 x x).mpr rfl⟩))
            · rcases i4 x (by omega) hsx with h1 | h1
              · exact Or.inl (Or.inl h1)
              · exact Or.inr (Or.inl h1)
        · cases h
      · rename_i hcond
        cases h
        refine ⟨i1, i2, i3, fun x hx hsx => ?_⟩
        by_cases hxj : x = j
        · subst hxj
          cases h1 : p.1.testBit x with
          | true => exact Or.inl rfl
          | false =>
            cases h2 : p.2.testBit x with
            | true => exact Or.inr rfl
            | false => exact absurd ⟨hsx, h1, h2⟩ hcond
        · exact i4 x (by omega) hsx
theorem fh_two (hw : wf n B) {s : Nat} (hs : ∀ x y, (B x).testBit y = true → s.testBit x = true) : fh B n s n ≠ none ↔ two B := by
  constructor
  · intro h
    cases hq : fh B n s n with
    | none => exact absurd hq h
    | some p =>
      obtain ⟨i1, i2, i3, i4⟩ := fh_spec hw hs n (Nat.le_refl _) p hq
      refine ⟨fun x => p.1.testBit x, fun x y hxy => ?_⟩
      rcases i4 x (wf_l hw hxy) (hs x y hxy) with h1 | h1
      · have h2 := i2 x y hxy h1
        show p.1.testBit x ≠ p.1.testBit y
        rw [h1]
        intro q
        exact i1 y ⟨q.symm, h2⟩
      · have h2 := i3 x y hxy h1
        show p.1.testBit x ≠ p.1.testBit y
        rw [h2]
        intro q
        exact i1 x ⟨q, h1⟩
  · rintro ⟨c, hc⟩
    have key : ∀ j, j ≤ n → fh B n s j ≠ none := by
      intro j
      induction j with
      | zero => intro _ h; cases h
      | succ j ih =>
        intro hj h
        simp only [fh] at h
        cases hq : fh B n s j with
        | none => exact ih (by omega) hq
        | some p =>
          rw [hq] at h
          dsimp only at h
          split at h
          · split at h
            · cases h
            · rename_i hEO
              apply hEO
              apply tb_eq
              intro x
              rw [Nat.testBit_and, Nat.zero_testBit, Bool.and_eq_true]
              constructor
              · rintro ⟨h1, h2⟩
                obtain ⟨m, m1, m2⟩ := (eE_iff hw (show j < n by omega) x).mp h1
                obtain ⟨k, k1, k2⟩ := (eO_iff hw (show j < n by omega) x).mp h2
                have e1 := two_walk hc m x m2
                have e2 := two_walk hc k x k2
                rw [if_pos m1] at e1
                rw [if_neg (by omega)] at e2
                rw [e1] at e2
                cases hcj : c j <;> simp [hcj] at e2
              · intro q; cases q
          · cases h
    exact key n (Nat.le_refl _)
/-- the class's halves of a set -/
theorem c_halfIn (hc : ct σ t n B) {s h f g : Nat} (hs : s < 2 ^ n) (hh : s.testBit h = true) (hf : f < 2 ^ n) (hg : g < 2 ^ n) : f_11031_42 tT σ t (nI s) (nI f) (nI g) (nI h) (nI (2 ^ h)) = some (if eE (rs B s) n h &&& eO (rs B s) n h = 0 then .inl (nI (f ||| eE (rs B s) n h), nI (g ||| eO (rs B s) n h), nI (h + 1)) else .inr (-1)) := by
  have har := @c_around σ t n B hc
  obtain ⟨l1, l2, hr', hw, h1, hnb⟩ := hc
  have hn := hw.1
  have hp := pw_le hn
  have hhn := tb_lt hs hh
  have hwr := wf_rs hw s
  have hsub : ∀ i x, (hr (rs B s) n h i).testBit x = true → s.testBit x = true := by
    intro i x hx
    obtain ⟨j, -, j2⟩ := (hr_wk h x i).mp hx
    cases j with
    | zero => rw [(wk_0 h x).mp j2]; exact hh
    | succ j =>
      rw [show 2 * (j + 1) = (2 * j + 1) + 1 by omega] at j2
      obtain ⟨y, -, -, y3⟩ := (wk_S h _ x).mp j2
      rw [rs_tb] at y3
      simp only [Bool.and_eq_true] at y3
      exact y3.2
  have hsubO : ∀ u x, (ar (rs B s) n u).testBit x = true → s.testBit x = true := by
    intro u x hx
    obtain ⟨y, -, -, y3⟩ := ar_tb.mp hx
    rw [rs_tb] at y3
    simp only [Bool.and_eq_true] at y3
    exact y3.2
  have harl : ∀ u, ar (rs B s) n u < 2 ^ n := fun u => lt_tb (fun x hx => ar_n hwr u hx)
  have htjl : ∀ i, tj (rs B s) n h i < 2 ^ n := fun i => by cases i with
    | zero => exact Nat.two_pow_pos n
    | succ i => exact harl _
  have end_ : ∀ E O : Nat, E < 2 ^ n → O < 2 ^ n → E = eE (rs B s) n h → O = eO (rs B s) n h → (if nI E &&& nI O = nI 0 then Option.map Sum.inr (f_11031_113 tT σ t (nI s) (nI f ||| nI E) (nI g) (nI h) (nI O)) else some (.inr (.inr (-1)))) = some (.inr (if eE (rs B s) n h &&& eO (rs B s) n h = 0 then .inl (nI (f ||| eE (rs B s) n h), nI (g ||| eO (rs B s) n h), nI (h + 1)) else .inr (-1)) : (Int32 × Int32 × Int32) ⊕ ((Int32 × Int32 × Int32) ⊕ Int32)) := by
    intro E O hE hO e1 e2
    rw [← e1, ← e2]
    have hEO : E &&& O < 2048 := and_lt (by omega)
    rw [fa_and, fa_or]
    by_cases hq : E &&& O = 0
    · rw [if_pos (by rw [hq]), if_pos hq, f_11031_113, fa_or, nI_add]
      rfl
    · rw [if_neg (by rw [nI_eq (by omega) (by omega)]; exact hq), if_neg hq]
  unfold f_11031_42 f_11031_48
  obtain ⟨b, hb, hq⟩ := lp_rel (F := fun q : Int32 × Int32 × Int32 => F_11031_48 tT σ t (nI s) (nI f) (nI g) (nI h) q.1 q.2.1 q.2.2) (fun i q => q = (nI (hr (rs B s) n h i), nI (tj (rs B s) n h i), nI i)) (fun b => b = if eE (rs B s) n h &&& eO (rs B s) n h = 0 then .inl (nI (f ||| eE (rs B s) n h), nI (g ||| eO (rs B s) n h), nI (h + 1)) else .inr (-1)) 11 (fun i q hi hI => by
    subst hI
    have hl1 := hr_lt hwr hhn i
    have hl2 := htjl i
    dsimp only
    unfold F_11031_48
    by_cases hi11 : 11 ≤ i
    · have : i = 11 := by omega
      subst this
      right
      rw [if_pos (by decide)]
      refine ⟨_, end_ _ _ hl1 hl2 rfl ?_, rfl⟩
      show ar (rs B s) n (hr (rs B s) n h 10) = ar (rs B s) n (hr (rs B s) n h 11)
      rw [(hr_11 hwr hhn).1]
    · rw [if_neg (by rw [nI_leI (by omega) (by omega)]; exact hi11)]
      have hA : ar B n (hr (rs B s) n h i) &&& s = ar (rs B s) n (hr (rs B s) n h i) := ar_rs (hsub i)
      have hal := harl (hr (rs B s) n h i)
      simp only [l1, gd_tt, oA_arr, px_obj_s, Option.bind_some, Option.map_some, Option.bind_none, eq_self, true_or, or_true, px_av_0, px_av_1, px_av_2, px_av_10, px_av_11, bn, wi_1, wi_2, wl_1, wl_21, wl_22, wr_1, wr_21, wr_22, Sum.elim_inl, Sum.elim_inr, ↓reduceIte, Nat.reduceLT, Nat.reduceLeDiff, not_false_eq_true, not_true_eq_false, Nat.reduceEqDiff, Nat.reduceAdd, reduceCtorEq, and_true, true_and, and_false, false_and, false_or, or_false, har (show hr (rs B s) n h i < 2048 by omega), fa_and, hA, f_11031_65]
      by_cases hbk : ar (rs B s) n (hr (rs B s) n h i) = tj (rs B s) n h i
      · right
        rw [if_pos (by rw [hbk])]
        rw [← fa_and]
        refine ⟨_, end_ _ _ hl1 hl2 (hr_brk hwr hhn (by omega) hbk) ?_, rfl⟩
        rw [← hbk, hr_brk hwr hhn (by omega) hbk]
        rfl
      · left
        rw [if_neg (by rw [nI_eq (by omega) (by omega)]; exact hbk)]
        have hA2 : ar B n (ar (rs B s) n (hr (rs B s) n h i)) &&& s = ar (rs B s) n (ar (rs B s) n (hr (rs B s) n h i)) := ar_rs (hsubO _)
        simp only [har (show ar (rs B s) n (hr (rs B s) n h i) < 2048 by omega), gd_tt, oA_arr, px_obj_s, Option.bind_some, Option.map_some, Option.bind_none, eq_self, true_or, or_true, px_av_0, px_av_1, px_av_2, px_av_10, px_av_11, bn, wi_1, wi_2, wl_1, wl_21, wl_22, wr_1, wr_21, wr_22, Sum.elim_inl, Sum.elim_inr, ↓reduceIte, Nat.reduceLT, Nat.reduceLeDiff, not_false_eq_true, not_true_eq_false, Nat.reduceEqDiff, Nat.reduceAdd, reduceCtorEq, and_true, true_and, and_false, false_and, false_or, or_false, fa_and, hA2, fa_or, f_11031_92, nI_add]
        exact ⟨_, rfl, by omega, rfl⟩) 0 (nI (2 ^ h), nI 0, nI 0) (by omega) rfl
  rw [hb, hq]
theorem c_half (hc : ct σ t n B) {s : Nat} (hs : s < 2 ^ n) : f_11031 tT σ t (nI s) = some (match fh (rs B s) n s n with | none => -1 | some p => nI p.1) := by
  have hin := @c_halfIn σ t n B hc s
  obtain ⟨l1, l2, hr', hw, h1, hnb⟩ := hc
  have hn := hw.1
  have hp := pw_le hn
  have hwr := wf_rs hw s
  unfold f_11031 f_11031_7
  obtain ⟨b, hb, hq⟩ := lp_rel (F := fun q : Int32 × Int32 × Int32 => F_11031_7 tT σ t (nI s) q.1 q.2.1 q.2.2) (fun j q => ∃ p, fh (rs B s) n s j = some p ∧ q = (nI p.1, nI p.2, nI j)) (fun b => b = match fh (rs B s) n s n with | none => -1 | some p => nI p.1) n (fun j q hj hI => by
    obtain ⟨p, hp1, rfl⟩ := hI
    obtain ⟨hf, hg⟩ := fh_lt hwr hj hp1
    dsimp only
    unfold F_11031_7
    simp only [l1, h1, gd_tt, oA_arr, px_obj_s, Option.bind_some, Option.map_some, Option.bind_none, eq_self, true_or, or_true, px_av_0, px_av_1, px_av_2, px_av_10, px_av_11, bn, wi_1, wi_2, wl_1, wl_21, wl_22, wr_1, wr_21, wr_22, Sum.elim_inl, Sum.elim_inr, ↓reduceIte, Nat.reduceLT, Nat.reduceLeDiff, not_false_eq_true, not_true_eq_false, Nat.reduceEqDiff, Nat.reduceAdd, reduceCtorEq, and_true, true_and, and_false, false_and, false_or, or_false]
    by_cases hjn : n ≤ j
    · right
      have : j = n := by omega
      subst this
      rw [if_pos (by rw [nI_leI (by omega) (by omega)]; exact hjn), hp1]
      exact ⟨_, rfl, rfl⟩
    · rw [if_neg (by rw [nI_leI (by omega) (by omega)]; exact hjn)]
      have hx1 : nd s p.1 < 2048 := nd_lt (by omega)
      have hx2 : nd (nd s p.1) p.2 < 2048 := nd_lt hx1
      rw [ni_nd (show s < 2048 by omega), ni_nd hx1]
      have htst : (nI (nd (nd s p.1) p.2) &&& (nI 1 <<< (nI j &&& 31)) = nI 0) ↔ ¬ (s.testBit j = true ∧ p.1.testBit j = false ∧ p.2.testBit j = false) := by
        rw [ni_tst (by omega) (by omega), nd_tb hx1, nd_tb (by omega)]
        cases s.testBit j <;> cases p.1.testBit j <;> cases p.2.testBit j <;> simp
      by_cases hcd : s.testBit j = true ∧ p.1.testBit j = false ∧ p.2.testBit j = false
      · rw [if_neg (fun q => htst.mp q hcd), ni_1s (by omega), hin hs hcd.1 hf hg]
        by_cases hEO : eE (rs B s) n j &&& eO (rs B s) n j = 0
        · left
          rw [if_pos hEO]
          refine ⟨_, rfl, by omega, (p.1 ||| eE (rs B s) n j, p.2 ||| eO (rs B s) n j), ?_, rfl⟩
          simp only [fh, hp1]
          rw [if_pos hcd, if_pos hEO]
        · right
          rw [if_neg hEO]
          refine ⟨_, rfl, ?_⟩
          have : fh (rs B s) n s (j + 1) = none := by
            simp only [fh, hp1]
            rw [if_pos hcd, if_neg hEO]
          rw [fh_none this (by omega)]
      · left
        rw [if_pos (htst.mpr hcd), nI_add]
        refine ⟨_, rfl, by omega, p, ?_, rfl⟩
        simp only [fh, hp1]
        rw [if_neg hcd]) 0 (nI 0, nI 0, nI 0) (by omega) ⟨(0, 0), rfl, rfl⟩
  rw [hb, hq]
end
