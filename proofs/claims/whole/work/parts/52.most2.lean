/-! the most guests, where no one has two friends -/
def dE (B : Nat → Nat) (s : Nat) : Nat := sm (fun x => if s.testBit x = true then bc 11 (B x &&& s) else 0) 11
section
variable {s v : Nat} {B : Nat → Nat}
theorem nd_tt (hs : s < 2048) (x : Nat) : (nd s (2 ^ v)).testBit x = true ↔ s.testBit x = true ∧ x ≠ v := by
  rw [nd_tb hs, Nat.testBit_two_pow]
  by_cases hx : v = x
  · subst hx; simp
  · simp [hx, Ne.symm hx]
theorem and_peel (hs : s < 2048) (hv : v < 11) (hb : s.testBit v = true) (y : Nat) : bc 11 (y &&& s) = bc 11 (y &&& nd s (2 ^ v)) + (y.testBit v).toNat := by
  have h0 : (y &&& nd s (2 ^ v)).testBit v = false := by
    cases h : (y &&& nd s (2 ^ v)).testBit v with
    | false => rfl
    | true =>
      rw [Nat.testBit_and, Bool.and_eq_true] at h
      exact absurd rfl ((nd_tt hs v).mp h.2).2
  cases hy : y.testBit v with
  | false =>
    show _ = _ + 0
    congr 1
    apply tb_eq
    intro i
    rw [Nat.testBit_and, Nat.testBit_and, Bool.and_eq_true, Bool.and_eq_true, nd_tt hs]
    exact ⟨fun q => ⟨q.1, q.2, fun z => by rw [z, hy] at q; cases q.1⟩, fun q => ⟨q.1, q.2.1⟩⟩
  | true =>
    show _ = _ + 1
    rw [← bc_one hv h0]
    congr 1
    apply tb_eq
    intro i
    rw [Nat.testBit_or, Bool.or_eq_true, Nat.testBit_and, Nat.testBit_and, Bool.and_eq_true, Bool.and_eq_true, nd_tt hs, Nat.testBit_two_pow, decide_eq_true_eq]
    constructor
    · intro q
      by_cases hi : v = i
      · exact Or.inr hi
      · exact Or.inl ⟨q.1, q.2, Ne.symm hi⟩
    · rintro (q | q)
      · exact ⟨q.1, q.2.1⟩
      · subst q; exact ⟨hy, hb⟩
theorem dE_peel (hB : sy B) (hs : s < 2048) (hv : v < 11) (hb : s.testBit v = true) : dE B s = dE B (nd s (2 ^ v)) + 2 * bc 11 (B v &&& s) := by
  have e1 := sm_ic hv (fun _ => bc 11 (B v &&& s))
  have e2 := bc_sm 11 (B v &&& s)
  have e3 : dE B s = sm (fun x => (if (nd s (2 ^ v)).testBit x = true then bc 11 (B x &&& nd s (2 ^ v)) else 0) + (((B v &&& s).testBit x).toNat + bc 11 (B v &&& s) * ic (v = x))) 11 := by
    unfold dE
    refine sm_congr (fun x hx => ?_)
    by_cases hxv : v = x
    · subst hxv
      rw [if_pos hb, if_neg (fun q => ((nd_tt hs v).mp q).2 rfl), ic_t rfl, Nat.testBit_and, hB.2.2.1 v]
      simp
    · rw [ic_f hxv, Nat.mul_zero, Nat.add_zero]
      cases hsx : s.testBit x with
      | false =>
        rw [if_neg (by simp), if_neg (fun q => by have := ((nd_tt hs x).mp q).1; rw [hsx] at this; cases this), Nat.testBit_and, hsx, Bool.and_false]
        rfl
      | true =>
        rw [if_pos rfl, if_pos ((nd_tt hs x).mpr ⟨hsx, Ne.symm hxv⟩), and_peel hs hv hb, Nat.testBit_and, hsx, Bool.and_true]
        congr 2
        cases h1 : (B x).testBit v with
        | true => rw [hB.2.1 _ _ h1]
        | false =>
          cases h2 : (B v).testBit x with
          | false => rfl
          | true => rw [hB.2.1 _ _ h2] at h1; cases h1
  rw [e3, sm_add, sm_add, e1, ← e2]
  show dE B (nd s (2 ^ v)) + _ = _
  omega
theorem mxg_low (hB : sy B) : ∀ m s, bc 11 s ≤ m → s < 2048 → (∀ x, x < 11 → s.testBit x = true → bc 11 (B x &&& s) ≤ 1) → mxg B s (bc 11 s - dE B s / 2) ∧ dE B s ≤ bc 11 s := by
  intro m
  induction m with
  | zero =>
    intro s hm hs _
    have h0 : s = 0 := bc_z hs (by omega)
    subst h0
    have e : dE B 0 = 0 := by
      unfold dE
      rw [sm_congr (g := fun _ => 0) (fun x _ => by rw [if_neg (by rw [Nat.zero_testBit]; simp)]), sm_0]
    rw [e, bc_0]
    exact ⟨mxg_0, Nat.le_refl _⟩
  | succ m ih =>
    intro s hm hs hd
    by_cases h0 : bc 11 s ≤ m
    · exact ih s h0 hs hd
    · have hne : ∃ v, v < 11 ∧ s.testBit v = true := by
        apply Classical.byContradiction
        intro q
        have : s = 0 := by
          apply tb_eq
          intro i
          rw [Nat.zero_testBit]
          constructor
          · intro z; exact absurd ⟨i, tb_lt (n := 11) hs z, z⟩ q
          · intro z; cases z
        rw [this, bc_0] at h0
        omega
      obtain ⟨v, hv, hb⟩ := hne
      have p1 := dE_peel hB hs hv hb
      have p2 := bc_nd hs hv hb
      have hs1 : nd s (2 ^ v) < 2048 := nd_lt hs
      have hd1 : ∀ x, x < 11 → (nd s (2 ^ v)).testBit x = true → bc 11 (B x &&& nd s (2 ^ v)) ≤ 1 := fun x hx h => by
        have := hd x hx ((nd_tt hs x).mp h).1
        rw [and_peel hs hv hb] at this
        omega
      obtain ⟨i1, i2⟩ := ih (nd s (2 ^ v)) (by omega) hs1 hd1
      have hdv := hd v hv hb
      have hBs : B v &&& s < 2048 := and_lt (hB.1 v)
      by_cases hz : bc 11 (B v &&& s) = 0
      · have hz' := bc_z hBs hz
        have e2 : nd (nd s (2 ^ v)) (B v) = nd s (2 ^ v) := by
          apply tb_eq
          intro i
          rw [nd_tb hs1, Bool.and_eq_true, Bool.not_eq_true']
          refine ⟨fun q => q.1, fun q => ⟨q, ?_⟩⟩
          cases hbi : (B v).testBit i with
          | false => rfl
          | true => exact absurd ⟨hbi, ((nd_tt hs i).mp q).1⟩ (and_0iff.mp hz' i)
        have := mxg_v hB hs hv hb i1 (by rw [e2]; exact i1)
        rw [if_neg (by omega)] at this
        refine ⟨?_, by omega⟩
        rw [show bc 11 s - dE B s / 2 = 1 + (bc 11 (nd s (2 ^ v)) - dE B (nd s (2 ^ v)) / 2) by omega]
        exact this
      · have hnz : ∃ w, (B v).testBit w = true ∧ s.testBit w = true := by
          apply Classical.byContradiction
          intro q
          apply hz
          rw [and_0iff.mpr (fun i hi => q ⟨i, hi⟩), bc_0]
        obtain ⟨w, w1, w2⟩ := hnz
        have hw := tb_lt (n := 11) hs w2
        have hwv : w ≠ v := fun z => by rw [z, hB.2.2.1 v] at w1; cases w1
        have hw1 : (nd s (2 ^ v)).testBit w = true := (nd_tt hs w).mpr ⟨w2, hwv⟩
        have hdw : bc 11 (B w &&& nd s (2 ^ v)) = 0 := by
          have := hd w hw w2
          rw [and_peel hs hv hb, hB.2.1 _ _ w1] at this
          simp only [Bool.toNat_true] at this
          omega
        have p3 := dE_peel hB hs1 hw hw1
        have p4 := bc_nd hs1 hw hw1
        have e2 : nd (nd s (2 ^ v)) (B v) = nd (nd s (2 ^ v)) (2 ^ w) := by
          apply tb_eq
          intro i
          rw [nd_tt hs1, nd_tb hs1, Bool.and_eq_true, Bool.not_eq_true']
          constructor
          · rintro ⟨q1, q2⟩
            exact ⟨q1, fun z => by rw [z, w1] at q2; cases q2⟩
          · rintro ⟨q1, q2⟩
            refine ⟨q1, ?_⟩
            cases hbi : (B v).testBit i with
            | false => rfl
            | true =>
              have hi := tb_lt (n := 11) hs1 q1
              have z1 := and_peel hs hw w2 (B v)
              have z2 := and_peel (nd_lt hs (s := 2 ^ w)) hi ((nd_tt hs i).mpr ⟨((nd_tt hs i).mp q1).1, q2⟩) (B v)
              rw [w1] at z1
              rw [hbi] at z2
              simp only [Bool.toNat_true] at z1 z2
              omega
        have hs2 : nd (nd s (2 ^ v)) (2 ^ w) < 2048 := nd_lt hs1
        obtain ⟨k1, k2⟩ := ih (nd (nd s (2 ^ v)) (2 ^ w)) (by omega) hs2 (fun x hx h => by
          have := hd1 x hx ((nd_tt hs1 x).mp h).1
          rw [and_peel hs1 hw hw1] at this
          omega)
        have := mxg_v hB hs hv hb i1 (by rw [e2]; exact k1)
        rw [if_neg (by omega)] at this
        refine ⟨?_, by omega⟩
        rw [show bc 11 s - dE B s / 2 = 1 + (bc 11 (nd (nd s (2 ^ v)) (2 ^ w)) - dE B (nd (nd s (2 ^ v)) (2 ^ w)) / 2) by omega]
        exact this
end
