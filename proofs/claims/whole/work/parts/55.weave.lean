/-! weaving: the town of the class -/
/-- the weave after j of the first n -/
def wvt (n : Nat) (B : Nat → Nat) : Nat → (Nat → Nat)
  | 0 => B
  | j + 1 => ah (n + j) (wvt n B j) (wvt n B j j &&& (2 ^ n - 1))
/-- the woven town, of 2 n + 1 houses -/
def wvn (n : Nat) (B : Nat → Nat) : Nat → Nat := ah (n + n) (wvt n B n) (nd (2 ^ (n + n) - 1) (2 ^ n - 1))
section
variable {σ : px_M} {t n : Nat} {B : Nat → Nat}
theorem c_weave (hc : ct σ t n B) (h5 : n ≤ 5) : ∃ υ, f_11013 tT σ t = some υ ∧ fr (tw2 t) σ υ ∧ ct υ t (2 * n + 1) (wvn n B) := by
  have e1 := hc.2.2.2.2.1
  have hal2 : 2 ^ n - 1 < 2048 := al_lt (by omega)
  have lp : ∃ υ, f_11013_18 tT t (nI n) (nI (2 ^ n - 1)) (nI 0) σ = some υ ∧ fr (tw2 t) σ υ ∧ ct υ t (2 * n + 1) (wvn n B) := by
    unfold f_11013_18
    refine lp_for (F := fun q : Int32 × px_M => F_11013_18 tT t (nI n) (nI (2 ^ n - 1)) q.1 q.2) (fun j q => q.1 = nI j ∧ fr (tw2 t) σ q.2 ∧ ct q.2 t (n + j) (wvt n B j)) (fun b => fr (tw2 t) σ b ∧ ct b t (2 * n + 1) (wvn n B)) n (fun j q hj hI => ?_) (fun q hI => ?_) 0 (nI 0, σ) (by omega) ⟨rfl, fr_rf _ _, hc⟩
    · obtain ⟨x, ρ⟩ := q
      obtain ⟨hx, g1, g2⟩ := hI
      dsimp only at hx g1 g2
      subst hx
      have hlt : wvt n B j j &&& (2 ^ n - 1) < 2 ^ (n + j) := by
        have a1 : wvt n B j j &&& (2 ^ n - 1) ≤ 2 ^ n - 1 := Nat.and_le_right
        have a2 : 2 ^ n ≤ 2 ^ (n + j) := Nat.pow_le_pow_right (by decide) (by omega)
        have a3 := Nat.two_pow_pos n
        omega
      obtain ⟨υ, q1, q2, q3⟩ := c_addHouse g2 (show n + j < 11 by omega) hlt
      obtain ⟨l1, l2, hr, hw, h1, hnb⟩ := g2
      have a1 : ¬ nI n ≤ nI j := by rw [nI_leI (by omega) (by omega)]; omega
      have c1 : vp_in (nI j) 11 := (vp_in_eq (by omega)).mpr (by omega)
      have c2 : (nI j).toNatClampNeg = j := nI_clamp (by omega)
      refine ⟨(nI (j + 1), υ), ?_, rfl, fr_tr g1 q2, q3⟩
      dsimp only
      unfold F_11013_18
      simp only [a1, l1, l2, hr, gd_tt, oA_arr, px_obj_s, Option.bind_some, Option.map_some, Option.bind_none, eq_self, true_or, or_true, px_av_0, px_av_1, px_av_2, px_av_10, px_av_11, bn, wi_1, wi_2, wl_1, wl_21, wl_22, wr_1, wr_21, wr_22, Sum.elim_inl, Sum.elim_inr, ↓reduceIte, Nat.reduceLT, Nat.reduceLeDiff, not_false_eq_true, not_true_eq_false, Nat.reduceEqDiff, Nat.reduceAdd, reduceCtorEq, and_true, true_and, and_false, false_and, false_or, or_false, c1, c2, hnb j (by omega), fa_and, q1, nI_add]
    · obtain ⟨x, ρ⟩ := q
      obtain ⟨hx, g1, g2⟩ := hI
      dsimp only at hx g1 g2
      subst hx
      have hall2 : 2 ^ (n + n) - 1 < 2048 := al_lt (by omega)
      have hlt : nd (2 ^ (n + n) - 1) (2 ^ n - 1) < 2 ^ (n + n) := by
        have a1 : nd (2 ^ (n + n) - 1) (2 ^ n - 1) ≤ 2 ^ (n + n) - 1 := Nat.and_le_left
        have a3 := Nat.two_pow_pos (n + n)
        omega
      obtain ⟨υ, q1, q2, q3⟩ := c_addHouse g2 (show n + n < 11 by omega) hlt
      have k1 := c_all g2
      have a1 : nI n ≤ nI n := by rw [nI_leI (by omega) (by omega)]; omega
      refine ⟨υ, ?_, fr_tr g1 q2, by rw [show 2 * n + 1 = n + n + 1 by omega]; exact q3⟩
      dsimp only
      unfold F_11013_18
      simp only [a1, g2.1, gd_tt, oA_arr, px_obj_s, Option.bind_some, Option.map_some, Option.bind_none, eq_self, true_or, or_true, px_av_0, px_av_1, px_av_2, px_av_10, px_av_11, bn, wi_1, wi_2, wl_1, wl_21, wl_22, wr_1, wr_21, wr_22, Sum.elim_inl, Sum.elim_inr, ↓reduceIte, Nat.reduceLT, Nat.reduceLeDiff, not_false_eq_true, not_true_eq_false, Nat.reduceEqDiff, Nat.reduceAdd, reduceCtorEq, and_true, true_and, and_false, false_and, false_or, or_false, k1, ni_nd hall2, q1]
  obtain ⟨υ, q1, q2⟩ := lp
  refine ⟨υ, ?_, q2⟩
  have a1 : nI n ≤ nI 5 := by rw [nI_leI (by omega) (by decide)]; exact h5
  simp only [f_11013, hc.1, gd_tt, oA_arr, px_obj_s, Option.bind_some, Option.map_some, Option.bind_none, eq_self, true_or, or_true, px_av_0, px_av_1, px_av_2, px_av_10, px_av_11, bn, wi_1, wi_2, wl_1, wl_21, wl_22, wr_1, wr_21, wr_22, Sum.elim_inl, Sum.elim_inr, ↓reduceIte, Nat.reduceLT, Nat.reduceLeDiff, not_false_eq_true, not_true_eq_false, Nat.reduceEqDiff, Nat.reduceAdd, reduceCtorEq, and_true, true_and, and_false, false_and, false_or, or_false, e1, a1, c_all hc, q1]
end
