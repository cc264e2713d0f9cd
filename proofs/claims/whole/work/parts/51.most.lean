/-! the most guests of a feast among s -/
def mxg (B : Nat → Nat) (s a : Nat) : Prop := (∃ I, I < 2048 ∧ I &&& s = I ∧ apart (RA B) 11 I ∧ bc 11 I = a) ∧ ∀ I, I < 2048 → I &&& s = I → apart (RA B) 11 I → bc 11 I ≤ a
section
variable {s a b v : Nat} {B : Nat → Nat}
theorem sub_iff {I s : Nat} : I &&& s = I ↔ ∀ x, I.testBit x = true → s.testBit x = true := by
  constructor
  · intro h x hx
    rw [← h, Nat.testBit_and, Bool.and_eq_true] at hx
    exact hx.2
  · intro h
    apply tb_eq
    intro i
    rw [Nat.testBit_and, Bool.and_eq_true]
    exact ⟨fun q => q.1, fun q => ⟨q, h i q⟩⟩
theorem mxg_0 : mxg B 0 0 := by
  refine ⟨⟨0, by decide, rfl, fun x y _ _ h => ?_, bc_0 11⟩, fun I _ h _ => ?_⟩
  · rw [Nat.zero_testBit] at h; cases h
  · rw [Nat.and_zero] at h
    rw [← h, bc_0]
    exact Nat.le_refl _
theorem mxg_uniq (h1 : mxg B s a) (h2 : mxg B s b) : a = b := by
  obtain ⟨⟨I, i1, i2, i3, i4⟩, hI⟩ := h1
  obtain ⟨⟨J, j1, j2, j3, j4⟩, hJ⟩ := h2
  have := hJ I i1 i2 i3
  have := hI J j1 j2 j3
  omega
theorem mxg_v (hB : sy B) (hs : s < 2048) (hv : v < 11) (hb : s.testBit v = true) (h1 : mxg B (nd s (2 ^ v)) a) (h2 : mxg B (nd (nd s (2 ^ v)) (B v)) b) : mxg B s (if 1 + b < a then a else 1 + b) := by
  have hs1 : nd s (2 ^ v) < 2048 := nd_lt hs
  have t1 : ∀ x, (nd s (2 ^ v)).testBit x = true ↔ s.testBit x = true ∧ x ≠ v := fun x => by
    rw [nd_tb hs, Nat.testBit_two_pow]
    by_cases hx : v = x
    · subst hx; simp
    · simp [hx, Ne.symm hx]
  have t2 : ∀ x, (nd (nd s (2 ^ v)) (B v)).testBit x = true ↔ (s.testBit x = true ∧ x ≠ v) ∧ (B v).testBit x = false := fun x => by
    rw [nd_tb hs1, Bool.and_eq_true, t1, Bool.not_eq_true']
  obtain ⟨⟨I, i1, i2, i3, i4⟩, hI⟩ := h1
  obtain ⟨⟨J, j1, j2, j3, j4⟩, hJ⟩ := h2
  have j2' := sub_iff.mp j2
  have i2' := sub_iff.mp i2
  have hJv : J.testBit v = false := by
    cases h : J.testBit v with
    | false => rfl
    | true => exact absurd rfl ((t2 v).mp (j2' v h)).1.2
  refine ⟨?_, fun K k1 k2 k3 => ?_⟩
  · by_cases hab : 1 + b < a
    · rw [if_pos hab]
      exact ⟨I, i1, sub_iff.mpr (fun x hx => ((t1 x).mp (i2' x hx)).1), i3, i4⟩
    · rw [if_neg hab]
      refine ⟨J ||| 2 ^ v, or_lt j1 (pw_lt hv), sub_iff.mpr (fun x hx => ?_), fun x y hx hy hJx hJy hr => ?_, by rw [bc_one hv hJv, j4]; omega⟩
      · rw [Nat.testBit_or, Bool.or_eq_true, Nat.testBit_two_pow, decide_eq_true_eq] at hx
        rcases hx with hx | hx
        · exact ((t2 x).mp (j2' x hx)).1.1
        · rw [← hx]; exact hb
      · rw [Nat.testBit_or, Bool.or_eq_true, Nat.testBit_two_pow, decide_eq_true_eq] at hJx hJy
        rcases hJx with hJx | hJx
        · rcases hJy with hJy | hJy
          · exact j3 x y hx hy hJx hJy hr
          · subst hJy
            have := hB.2.1 _ _ hr
            rw [((t2 x).mp (j2' x hJx)).2] at this
            cases this
        · subst hJx
          rcases hJy with hJy | hJy
          · have hr' : (B v).testBit y = true := hr
            rw [((t2 y).mp (j2' y hJy)).2] at hr'
            cases hr'
          · subst hJy
            have hr' : (B v).testBit v = true := hr
            rw [hB.2.2.1 v] at hr'
            cases hr'
  · have k2' := sub_iff.mp k2
    cases hKv : K.testBit v with
    | false =>
      have := hI K k1 (sub_iff.mpr (fun x hx => (t1 x).mpr ⟨k2' x hx, fun z => by rw [z, hKv] at hx; cases hx⟩)) k3
      split <;> omega
    | true =>
      have hnd := bc_nd k1 hv hKv
      have tK : ∀ x, (nd K (2 ^ v)).testBit x = true → K.testBit x = true ∧ x ≠ v := fun x h => by
        rw [nd_tb k1, Nat.testBit_two_pow] at h
        by_cases hx : v = x
        · subst hx; simp at h
        · exact ⟨by simp [hx] at h; exact h, Ne.symm hx⟩
      have := hJ (nd K (2 ^ v)) (nd_lt k1) (sub_iff.mpr (fun x hx => (t2 x).mpr ⟨⟨k2' x (tK x hx).1, (tK x hx).2⟩, ?_⟩)) (fun x y hx hy h1 h2 => k3 x y hx hy (tK x h1).1 (tK y h2).1)
      · split <;> omega
      · cases hbx : (B v).testBit x with
        | false => rfl
        | true => exact absurd hbx (k3 v x hv (tb_lt (n := 11) k1 (tK x hx).1) hKv (tK x hx).1)
end
