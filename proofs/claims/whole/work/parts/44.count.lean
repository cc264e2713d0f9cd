/-! the class counts the ways -/
def RA (A : Nat → Nat) : Nat → Nat → Prop := fun x y => (A x).testBit y = true
theorem bc_nd {s h : Nat} (hs : s < 2048) (hh : h < 11) (hb : s.testBit h = true) : bc 11 (nd s (2 ^ h)) + 1 = bc 11 s := by
  have h0 : (nd s (2 ^ h)).testBit h = false := by rw [nd_tb hs, Nat.testBit_two_pow, decide_eq_true rfl, Bool.not_true, Bool.and_false]
  rw [← bc_one hh h0]
  congr 1
  apply Nat.eq_of_testBit_eq
  intro i
  rw [Nat.testBit_or, nd_tb hs, Nat.testBit_two_pow]
  by_cases hi : h = i
  · subst hi; simp [hb]
  · simp [hi]
theorem woh_nd {s h : Nat} (hs : s < 2048) (x : Nat) : woh s.testBit h x = (nd s (2 ^ h)).testBit x := by
  rw [nd_tb hs, Nat.testBit_two_pow]
  unfold woh
  by_cases hx : x = h
  · subst hx; simp
  · simp [hx, Ne.symm hx]
theorem fac {f k g : Nat} (hf : f ≤ 6 ^ 11) (hk : k ≤ 6) (hg : g ≤ 11) : (lN 0 < lN f * (nI k - nI g).toInt64 ↔ 0 < f * (k - g)) ∧ (g ≤ k → lN f * (nI k - nI g).toInt64 = lN (f * (k - g))) := by
  have h6 : (6 : Nat) ^ 11 = 362797056 := by decide
  have e1 : g ≤ k → lN f * (nI k - nI g).toInt64 = lN (f * (k - g)) := fun h => by
    rw [ni_subL h, nI_l (by omega), lN_mul]
  refine ⟨?_, e1⟩
  have hle : f * (k - g) ≤ 362797056 * 6 := Nat.mul_le_mul (by omega) (by omega)
  rcases Nat.lt_or_ge k g with h | h
  · have z : k - g = 0 := by omega
    rw [z, Nat.mul_zero]
    refine ⟨fun q => ?_, fun q => by omega⟩
    exfalso
    rw [fa_lt64, pf_lI (by omega), Int64.toInt_mul, pf_lI (by omega), Int32.toInt_toInt64, Int32.toInt_sub, nI_toInt (by omega), nI_toInt (by omega)] at q
    rw [Int.bmod_eq_of_le (n := (k : Int) - g) (by omega) (by omega)] at q
    obtain ⟨d, hd⟩ : ∃ d, g = k + d := ⟨g - k, by omega⟩
    have hz : (f : Int) * ((k : Int) - g) = -((f * d : Nat) : Int) := by
      rw [hd]
      push_cast
      rw [show (k : Int) - (k + d) = -(d : Int) by omega, Int.mul_neg]
    have hfd : f * d ≤ 362797056 * 11 := Nat.mul_le_mul (by omega) (by omega)
    rw [hz, Int.bmod_eq_of_le (by omega) (by omega)] at q
    omega
  · rw [e1 h, fa_lt64, pf_lI (by omega), pf_lI (by omega)]
    omega
/-- u and v befriended -/
def bf (A : Nat → Nat) (u v : Nat) : Nat → Nat := fun x => if x = u then A u ||| 2 ^ v else if x = v then A v ||| 2 ^ u else A x
theorem bf_R {A : Nat → Nat} {u v : Nat} (huv : u ≠ v) (x y : Nat) : (bf A u v x).testBit y = true ↔ (A x).testBit y = true ∨ (x = u ∧ y = v) ∨ (x = v ∧ y = u) := by
  unfold bf
  by_cases hxu : x = u
  · subst hxu
    rw [if_pos rfl, Nat.testBit_or, Nat.testBit_two_pow, Bool.or_eq_true, decide_eq_true_eq]
    constructor
    · rintro (h | h)
      · exact Or.inl h
      · exact Or.inr (Or.inl ⟨rfl, h.symm⟩)
    · rintro (h | ⟨-, h⟩ | ⟨h, -⟩)
      · exact Or.inl h
      · exact Or.inr h.symm
      · exact absurd h huv
  · rw [if_neg hxu]
    by_cases hxv : x = v
    · subst hxv
      rw [if_pos rfl, Nat.testBit_or, Nat.testBit_two_pow, Bool.or_eq_true, decide_eq_true_eq]
      constructor
      · rintro (h | h)
        · exact Or.inl h
        · exact Or.inr (Or.inr ⟨rfl, h.symm⟩)
      · rintro (h | ⟨h, -⟩ | ⟨-, h⟩)
        · exact Or.inl h
        · exact absurd h hxu
        · exact Or.inr h.symm
    · rw [if_neg hxv]
      constructor
      · exact Or.inl
      · rintro (h | ⟨h, -⟩ | ⟨h, -⟩)
        · exact h
        · exact absurd h hxu
        · exact absurd h hxv
theorem bf_sy {A : Nat → Nat} {u v : Nat} (hA : sy A) (hu : u < 11) (hv : v < 11) (huv : u ≠ v) : sy (bf A u v) := by
  refine ⟨fun x => ?_, fun x y h => ?_, fun x => ?_, fun x hx => ?_⟩
  · unfold bf
    split
    · exact or_lt (hA.1 u) (pw_lt hv)
    · split
      · exact or_lt (hA.1 v) (pw_lt hu)
      · exact hA.1 x
  · rw [bf_R huv] at h ⊢
    rcases h with h | h | h
    · exact Or.inl (hA.2.1 _ _ h)
    · exact Or.inr (Or.inr ⟨h.2, h.1⟩)
    · exact Or.inr (Or.inl ⟨h.2, h.1⟩)
  · cases h : (bf A u v x).testBit x with
    | false => rfl
    | true =>
      rcases (bf_R huv x x).mp h with h | h | h
      · rw [hA.2.2.1 x] at h; cases h
      · exact absurd (h.1.symm.trans h.2) huv
      · exact absurd (h.2.symm.trans h.1) huv
  · unfold bf
    rw [if_neg (by omega), if_neg (by omega), hA.2.2.2 x hx]
/-- the doors in all -/
def dg (A : Nat → Nat) : Nat := sm (fun x => bc 11 (A x)) 11
theorem dg_le {A : Nat → Nat} (hA : sy A) : dg A ≤ 110 := by
  unfold dg
  have := sm_mono (f := fun x => bc 11 (A x)) (g := fun _ => 10) (n := 11) (fun j hj => bc_10 hj (hA.2.2.1 j))
  rw [sm_one] at this
  exact this
theorem dg_bf {A : Nat → Nat} {u v : Nat} (hA : sy A) (hu : u < 11) (hv : v < 11) (huv : u ≠ v) (hno : (A u).testBit v = false) : dg (bf A u v) = dg A + 2 := by
  have hvu : (A v).testBit u = false := by
    cases h : (A v).testBit u with
    | false => rfl
    | true => have := hA.2.1 _ _ h; rw [hno] at this; cases this
  have e1 := sm_ic hu (fun _ => 1)
  have e2 := sm_ic hv (fun _ => 1)
  unfold dg
  rw [sm_congr (g := fun x => bc 11 (A x) + (1 * ic (u = x) + 1 * ic (v = x))) (fun x hx => ?_), sm_add, sm_add, e1, e2]
  unfold bf
  by_cases hxu : x = u
  · subst hxu
    rw [if_pos rfl, bc_one hv hno, ic_t rfl, ic_f (Ne.symm huv)]
  · rw [if_neg hxu]
    by_cases hxv : x = v
    · subst hxv
      rw [if_pos rfl, bc_one hu hvu, ic_t rfl, ic_f huv]
    · rw [if_neg hxv, ic_f (Ne.symm hxu), ic_f (Ne.symm hxv)]; omega
