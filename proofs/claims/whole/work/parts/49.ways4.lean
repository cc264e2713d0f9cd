/-! ways: class and model alike -/
section
variable {σ τ : px_M} {n k c s : Nat} {B : Nat → Nat}
theorem e_two (hm : mo σ n B) : nI 1 <<< (nI n &&& 31) = nI (2 ^ n) := ni_1s (by have := hm.2.1.1; omega)
theorem e_back {x1 : Int32} (hm : mo σ n B) : ∃ b, f_93_145 tT 0 x1 (nI c) (nI 0) σ = some b ∧ ∃ υ, b = .inl (nI (c + 1), υ) ∧ fr (on 23) σ υ ∧ ∀ t, t < 2 ^ n → υ.2.1 23 t = σ.2.1 24 t := by
  have hn := hm.2.1.1
  have hp := pw_le hn
  unfold f_93_145
  refine lp_for (F := fun q : Int32 × px_M => F_93_145 tT 0 x1 (nI c) q.1 q.2) (fun j q => q.1 = nI j ∧ fr (on 23) σ q.2 ∧ ∀ t, t < j → q.2.2.1 23 t = σ.2.1 24 t) (fun b => ∃ υ, b = .inl (nI (c + 1), υ) ∧ fr (on 23) σ υ ∧ ∀ t, t < 2 ^ n → υ.2.1 23 t = σ.2.1 24 t) (2 ^ n) (fun j q hj hI => ?_) (fun q hI => ?_) 0 (nI 0, σ) (Nat.zero_le _) ⟨rfl, fr_rf _ _, fun x hx => absurd hx (by omega)⟩
  · obtain ⟨y, ρ⟩ := q
    obtain ⟨hx, g1, g2⟩ := hI
    dsimp only at hx g1 g2
    subst hx
    have hmρ := mo_on (by decide) g1 hm
    have et := e_two hmρ
    obtain ⟨hR, -, e1, -⟩ := id hmρ
    have a1 : ¬ nI (2 ^ n) ≤ nI j := by rw [nI_leI (by omega) (by omega)]; omega
    have b1 : vp_in (nI j) 2048 := (vp_in_eq (by omega)).mpr (by omega)
    have b3 : (nI j).toNatClampNeg = j := nI_clamp (by omega)
    have c2 : (nI 1).toNatClampNeg = 1 := by decide
    refine ⟨(nI (j + 1), px_wl ρ 23 j (σ.2.1 24 j)), ?_, rfl, fr_wl g1 _ (on_t _ _), fun t ht => ?_⟩
    · rw [← g1.2.1 24 j (by simp [on])]
      unfold F_93_145
      simp only [la_0, la_1, la_23, la_24, rm_0_1 hR, rm_0_23 hR, rm_0_24 hR, gd_tt, oA_arr, px_obj_s, Option.bind_some, Option.map_some, Option.bind_none, eq_self, true_or, or_true, px_av_0, px_av_1, px_av_2, px_av_10, px_av_11, bn, wi_1, wi_2, wl_1, wl_21, wl_22, wr_1, wr_21, wr_22, Sum.elim_inl, Sum.elim_inr, ↓reduceIte, Nat.reduceLT, Nat.reduceLeDiff, not_false_eq_true, not_true_eq_false, Nat.reduceEqDiff, Nat.reduceAdd, reduceCtorEq, and_true, true_and, and_false, false_and, false_or, or_false, vp_in_eq (show 1 < 2 ^ 31 by decide), c2, e1, et, a1, b1, b3, nI_add]
    · show px_up ρ.2.1 23 _ _ 23 _ = _
      rw [up_sL]
      by_cases htj : t = j
      · rw [if_pos htj, htj]
      · rw [if_neg htj]; exact g2 t (by omega)
  · obtain ⟨y, ρ⟩ := q
    obtain ⟨hx, g1, g2⟩ := hI
    dsimp only at hx g1 g2
    subst hx
    have hmρ := mo_on (by decide) g1 hm
    have et := e_two hmρ
    obtain ⟨hR, -, e1, -⟩ := id hmρ
    have a1 : nI (2 ^ n) ≤ nI (2 ^ n) := by rw [nI_leI (by omega) (by omega)]; omega
    have c2 : (nI 1).toNatClampNeg = 1 := by decide
    refine ⟨.inl (nI (c + 1), ρ), ?_, ρ, rfl, g1, g2⟩
    unfold F_93_145
    simp only [la_0, la_1, rm_0_1 hR, gd_tt, oA_arr, px_obj_s, Option.bind_some, Option.map_some, Option.bind_none, eq_self, true_or, or_true, px_av_0, px_av_1, px_av_2, px_av_10, px_av_11, bn, wi_1, wi_2, wl_1, wl_21, wl_22, wr_1, wr_21, wr_22, Sum.elim_inl, Sum.elim_inr, ↓reduceIte, Nat.reduceLT, Nat.reduceLeDiff, not_false_eq_true, not_true_eq_false, Nat.reduceEqDiff, Nat.reduceAdd, reduceCtorEq, and_true, true_and, and_false, false_and, false_or, or_false, vp_in_eq (show 1 < 2 ^ 31 by decide), c2, e1, et, a1, nI_add]
def S2 (l _ : Nat) : Bool := l == 23 || l == 24
theorem S2_23 (h : fr (on 23) σ τ) : fr S2 σ τ := fr_mono h (fun l j q => by
  simp only [S2, Bool.or_eq_false_iff, beq_eq_false_iff_ne] at q
  simp only [on, beq_eq_false_iff_ne]
  exact q.1)
theorem S2_24 (h : fr (on 24) σ τ) : fr S2 σ τ := fr_mono h (fun l j q => by
  simp only [S2, Bool.or_eq_false_iff, beq_eq_false_iff_ne] at q
  simp only [on, beq_eq_false_iff_ne]
  exact q.2)
theorem SM_S2 (h : fr S2 σ τ) : fr SM σ τ := fr_mono h (fun l j q => by
  simp only [S2, Bool.or_eq_false_iff, beq_eq_false_iff_ne]
  constructor
  · intro z; subst z; simp [SM] at q
  · intro z; subst z; simp [SM] at q)
theorem mo_S2 (h : fr S2 σ τ) (hm : mo σ n B) : mo τ n B := mo_fr h (fun j => by simp [S2]) hm
theorem e_next {x1 : Int32} (hm : mo σ n B) (h23 : ∀ t, t < 2 ^ n → σ.2.1 23 t = lN (Wy (RA B) 11 t.testBit c)) : ∃ b, f_93_65 tT 0 x1 (nI c) (nI 0) σ = some b ∧ ∃ υ, b = .inl (nI (c + 1), υ) ∧ fr S2 σ υ ∧ ∀ t, t < 2 ^ n → υ.2.1 23 t = lN (Wy (RA B) 11 t.testBit (c + 1)) := by
  have hn := hm.2.1.1
  have hp := pw_le hn
  unfold f_93_65
  refine lp_for (F := fun q : Int32 × px_M => F_93_65 tT 0 x1 (nI c) q.1 q.2) (fun j q => q.1 = nI j ∧ fr (on 24) σ q.2 ∧ ∀ t, t < j → q.2.2.1 24 t = lN (Wy (RA B) 11 t.testBit (c + 1))) (fun b => ∃ υ, b = .inl (nI (c + 1), υ) ∧ fr S2 σ υ ∧ ∀ t, t < 2 ^ n → υ.2.1 23 t = lN (Wy (RA B) 11 t.testBit (c + 1))) (2 ^ n) (fun j q hj hI => ?_) (fun q hI => ?_) 0 (nI 0, σ) (Nat.zero_le _) ⟨rfl, fr_rf _ _, fun x hx => absurd hx (by omega)⟩
  · obtain ⟨y, ρ⟩ := q
    obtain ⟨hx, g1, g2⟩ := hI
    dsimp only at hx g1 g2
    subst hx
    have hmρ := mo_on (by decide) g1 hm
    have et := e_two hmρ
    obtain ⟨hR, -, e1, -⟩ := id hmρ
    have a1 : ¬ nI (2 ^ n) ≤ nI j := by rw [nI_leI (by omega) (by omega)]; omega
    have b1 : vp_in (nI j) 2048 := (vp_in_eq (by omega)).mpr (by omega)
    have b3 : (nI j).toNatClampNeg = j := nI_clamp (by omega)
    have c2 : (nI 1).toNatClampNeg = 1 := by decide
    have hf1 : fr (on 24) σ (px_wl ρ 24 j (ρ.2.1 23 j)) := fr_wl g1 _ (on_t _ _)
    have h23' : ∀ t, t < 2 ^ n → ρ.2.1 23 t = lN (Wy (RA B) 11 t.testBit c) := fun t ht => by
      rw [g1.2.1 23 t (by simp [on])]; exact h23 t ht
    obtain ⟨b, q1, υ, rfl, q2, q3, q4⟩ := e_share (x1 := x1) (x2 := nI c) (s := j) (c := c) (mo_on (by decide) hf1 hm) hj (fun t ht => by
      show ρ.2.1 23 t = _
      exact h23' t ht) (by
      show px_up ρ.2.1 24 _ _ 24 _ = _
      rw [up_sL, if_pos rfl]; exact h23' j hj)
    refine ⟨(nI (j + 1), υ), ?_, rfl, fr_tr hf1 q2, fun t ht => ?_⟩
    · unfold F_93_65
      simp only [la_0, la_1, la_23, la_24, rm_0_1 hR, rm_0_23 hR, rm_0_24 hR, gd_tt, oA_arr, px_obj_s, Option.bind_some, Option.map_some, Option.bind_none, eq_self, true_or, or_true, px_av_0, px_av_1, px_av_2, px_av_10, px_av_11, bn, wi_1, wi_2, wl_1, wl_21, wl_22, wr_1, wr_21, wr_22, Sum.elim_inl, Sum.elim_inr, ↓reduceIte, Nat.reduceLT, Nat.reduceLeDiff, not_false_eq_true, not_true_eq_false, Nat.reduceEqDiff, Nat.reduceAdd, reduceCtorEq, and_true, true_and, and_false, false_and, false_or, or_false, vp_in_eq (show 1 < 2 ^ 31 by decide), c2, e1, et, a1, b1, b3, q1]
    · by_cases htj : t = j
      · rw [htj]; exact q3
      · rw [q4 t htj]
        show px_up ρ.2.1 24 _ _ 24 _ = _
        rw [up_sL, if_neg htj]; exact g2 t (by omega)
  · obtain ⟨y, ρ⟩ := q
    obtain ⟨hx, g1, g2⟩ := hI
    dsimp only at hx g1 g2
    subst hx
    have hmρ := mo_on (by decide) g1 hm
    have et := e_two hmρ
    obtain ⟨b, q1, υ, rfl, q2, q3⟩ := e_back (x1 := x1) (c := c) hmρ
    obtain ⟨hR, -, e1, -⟩ := id hmρ
    have a1 : nI (2 ^ n) ≤ nI (2 ^ n) := by rw [nI_leI (by omega) (by omega)]; omega
    have c2 : (nI 1).toNatClampNeg = 1 := by decide
    refine ⟨.inl (nI (c + 1), υ), ?_, υ, rfl, fr_tr (S2_24 g1) (S2_23 q2), fun t ht => by rw [q3 t ht]; exact g2 t ht⟩
    unfold F_93_65
    simp only [la_0, la_1, rm_0_1 hR, gd_tt, oA_arr, px_obj_s, Option.bind_some, Option.map_some, Option.bind_none, eq_self, true_or, or_true, px_av_0, px_av_1, px_av_2, px_av_10, px_av_11, bn, wi_1, wi_2, wl_1, wl_21, wl_22, wr_1, wr_21, wr_22, Sum.elim_inl, Sum.elim_inr, ↓reduceIte, Nat.reduceLT, Nat.reduceLeDiff, not_false_eq_true, not_true_eq_false, Nat.reduceEqDiff, Nat.reduceAdd, reduceCtorEq, and_true, true_and, and_false, false_and, false_or, or_false, vp_in_eq (show 1 < 2 ^ 31 by decide), c2, e1, et, a1, q1]
theorem e_ways (hm : mo σ n B) (hk : k ≤ 6) : ∃ b, f_93_23 tT 0 (nI k) (nI 0) σ = some b ∧ ∃ υ, b = (lN (Wy (RA B) 11 (2 ^ n - 1).testBit k), υ) ∧ fr S2 σ υ := by
  have hn := hm.2.1.1
  have hp := pw_le hn
  have hp0 := Nat.two_pow_pos n
  have outer : ∀ ρ, mo ρ n B → (∀ t, t < 2 ^ n → ρ.2.1 23 t = lN (Wy (RA B) 11 t.testBit 0)) → ∃ b, f_93_58 tT 0 (nI k) (nI 0) ρ = some b ∧ ∃ υ, b = (lN (Wy (RA B) 11 (2 ^ n - 1).testBit k), υ) ∧ fr S2 ρ υ := by
    intro ρ hmρ h0
    unfold f_93_58
    refine lp_for (F := fun q : Int32 × px_M => F_93_58 tT 0 (nI k) q.1 q.2) (fun j q => q.1 = nI j ∧ fr S2 ρ q.2 ∧ ∀ t, t < 2 ^ n → q.2.2.1 23 t = lN (Wy (RA B) 11 t.testBit j)) (fun b => ∃ υ, b = (lN (Wy (RA B) 11 (2 ^ n - 1).testBit k), υ) ∧ fr S2 ρ υ) k (fun j q hj hI => ?_) (fun q hI => ?_) 0 (nI 0, ρ) (by omega) ⟨rfl, fr_rf _ _, h0⟩
    · obtain ⟨y, ψ⟩ := q
      obtain ⟨hx, g1, g2⟩ := hI
      dsimp only at hx g1 g2
      subst hx
      obtain ⟨b, q1, υ, rfl, q2, q3⟩ := e_next (x1 := nI k) (c := j) (mo_S2 g1 hmρ) g2
      refine ⟨(nI (j + 1), υ), ?_, rfl, fr_tr g1 q2, q3⟩
      dsimp only
      unfold F_93_58
      rw [if_neg (by rw [nI_leI (by omega) (by omega)]; omega), q1]
    · obtain ⟨y, ψ⟩ := q
      obtain ⟨hx, g1, g2⟩ := hI
      dsimp only at hx g1 g2
      subst hx
      have hmψ := mo_S2 g1 hmρ
      have et := e_two hmψ
      obtain ⟨hR, -, e1, -⟩ := id hmψ
      have a1 : nI k ≤ nI k := by rw [nI_leI (by omega) (by omega)]; omega
      have a2 : nI (2 ^ n) - nI 1 = nI (2 ^ n - 1) := ni_subL (by omega)
      have b1 : vp_in (nI (2 ^ n - 1)) 2048 := (vp_in_eq (by omega)).mpr (by omega)
      have b3 : (nI (2 ^ n - 1)).toNatClampNeg = 2 ^ n - 1 := nI_clamp (by omega)
      have c2 : (nI 1).toNatClampNeg = 1 := by decide
      refine ⟨(lN (Wy (RA B) 11 (2 ^ n - 1).testBit k), ψ), ?_, ψ, rfl, g1⟩
      rw [← g2 (2 ^ n - 1) (by omega)]
      unfold F_93_58
      simp only [a1, la_0, la_1, la_23, rm_0_1 hR, rm_0_23 hR, gd_tt, oA_arr, px_obj_s, Option.bind_some, Option.map_some, Option.bind_none, eq_self, true_or, or_true, px_av_0, px_av_1, px_av_2, px_av_10, px_av_11, bn, wi_1, wi_2, wl_1, wl_21, wl_22, wr_1, wr_21, wr_22, Sum.elim_inl, Sum.elim_inr, ↓reduceIte, Nat.reduceLT, Nat.reduceLeDiff, not_false_eq_true, not_true_eq_false, Nat.reduceEqDiff, Nat.reduceAdd, reduceCtorEq, and_true, true_and, and_false, false_and, false_or, or_false, vp_in_eq (show 1 < 2 ^ 31 by decide), c2, e1, et, a2, b1, b3]
  unfold f_93_23
  refine lp_for (F := fun q : Int32 × px_M => F_93_23 tT 0 (nI k) q.1 q.2) (fun j q => q.1 = nI j ∧ fr (on 23) σ q.2 ∧ ∀ t, t < j → q.2.2.1 23 t = lN (Wy (RA B) 11 t.testBit 0)) (fun b => ∃ υ, b = (lN (Wy (RA B) 11 (2 ^ n - 1).testBit k), υ) ∧ fr S2 σ υ) (2 ^ n) (fun j q hj hI => ?_) (fun q hI => ?_) 0 (nI 0, σ) (Nat.zero_le _) ⟨rfl, fr_rf _ _, fun x hx => absurd hx (by omega)⟩
  · obtain ⟨y, ρ⟩ := q
    obtain ⟨hx, g1, g2⟩ := hI
    dsimp only at hx g1 g2
    subst hx
    have hmρ := mo_on (by decide) g1 hm
    have et := e_two hmρ
    obtain ⟨hR, -, e1, -⟩ := id hmρ
    have a1 : ¬ nI (2 ^ n) ≤ nI j := by rw [nI_leI (by omega) (by omega)]; omega
    have b1 : vp_in (nI j) 2048 := (vp_in_eq (by omega)).mpr (by omega)
    have b3 : (nI j).toNatClampNeg = j := nI_clamp (by omega)
    have c2 : (nI 1).toNatClampNeg = 1 := by decide
    refine ⟨(nI (j + 1), px_wl ρ 23 j (lN (Wy (RA B) 11 j.testBit 0))), ?_, rfl, fr_wl g1 _ (on_t _ _), fun t ht => ?_⟩
    · by_cases hj0 : j = 0
      · subst hj0
        rw [Wy_0]
        unfold F_93_23
        simp only [la_0, la_1, la_23, rm_0_1 hR, rm_0_23 hR, gd_tt, oA_arr, px_obj_s, Option.bind_some, Option.map_some, Option.bind_none, eq_self, true_or, or_true, px_av_0, px_av_1, px_av_2, px_av_10, px_av_11, bn, wi_1, wi_2, wl_1, wl_21, wl_22, wr_1, wr_21, wr_22, Sum.elim_inl, Sum.elim_inr, ↓reduceIte, Nat.reduceLT, Nat.reduceLeDiff, not_false_eq_true, not_true_eq_false, Nat.reduceEqDiff, Nat.reduceAdd, reduceCtorEq, and_true, true_and, and_false, false_and, false_or, or_false, vp_in_eq (show 1 < 2 ^ 31 by decide), c2, e1, et, a1, b1, b3, nI_add]
      · have hz : ¬ nI j = nI 0 := by rw [nI_eq (by omega) (by decide)]; exact hj0
        rw [Wy_none (by omega) hj0]
        unfold F_93_23
        simp only [la_0, la_1, la_23, rm_0_1 hR, rm_0_23 hR, gd_tt, oA_arr, px_obj_s, Option.bind_some, Option.map_some, Option.bind_none, eq_self, true_or, or_true, px_av_0, px_av_1, px_av_2, px_av_10, px_av_11, bn, wi_1, wi_2, wl_1, wl_21, wl_22, wr_1, wr_21, wr_22, Sum.elim_inl, Sum.elim_inr, ↓reduceIte, Nat.reduceLT, Nat.reduceLeDiff, not_false_eq_true, not_true_eq_false, Nat.reduceEqDiff, Nat.reduceAdd, reduceCtorEq, and_true, true_and, and_false, false_and, false_or, or_false, vp_in_eq (show 1 < 2 ^ 31 by decide), c2, e1, et, a1, b1, b3, nI_add, hz]
    · show px_up ρ.2.1 23 _ _ 23 _ = _
      rw [up_sL]
      by_cases htj : t = j
      · rw [if_pos htj, htj]
      · rw [if_neg htj]; exact g2 t (by omega)
  · obtain ⟨y, ρ⟩ := q
    obtain ⟨hx, g1, g2⟩ := hI
    dsimp only at hx g1 g2
    subst hx
    have hmρ := mo_on (by decide) g1 hm
    have et := e_two hmρ
    obtain ⟨b, q1, υ, rfl, q2⟩ := outer ρ hmρ g2
    obtain ⟨hR, -, e1, -⟩ := id hmρ
    have a1 : nI (2 ^ n) ≤ nI (2 ^ n) := by rw [nI_leI (by omega) (by omega)]; omega
    have c2 : (nI 1).toNatClampNeg = 1 := by decide
    refine ⟨_, ?_, υ, rfl, fr_tr (S2_23 g1) q2⟩
    unfold F_93_23
    simp only [la_0, la_1, rm_0_1 hR, gd_tt, oA_arr, px_obj_s, Option.bind_some, Option.map_some, Option.bind_none, eq_self, true_or, or_true, px_av_0, px_av_1, px_av_2, px_av_10, px_av_11, bn, wi_1, wi_2, wl_1, wl_21, wl_22, wr_1, wr_21, wr_22, Sum.elim_inl, Sum.elim_inr, ↓reduceIte, Nat.reduceLT, Nat.reduceLeDiff, not_false_eq_true, not_true_eq_false, Nat.reduceEqDiff, Nat.reduceAdd, reduceCtorEq, and_true, true_and, and_false, false_and, false_or, or_false, vp_in_eq (show 1 < 2 ^ 31 by decide), c2, e1, et, a1, q1]
theorem a_ways (hc : cl σ n B) (v : Int32) : agL σ (f_12033 tT σ 100 v) (fun τ => f_93 tT τ 0 v) n B := by
  rcases rg_cases v 0 6 (by decide) with ⟨k, -, hk, rfl⟩ | hno
  · obtain ⟨b, q1, υ, rfl, q2⟩ := c_8008 hc hk
    obtain ⟨hR, ht⟩ := hc
    have a1 : ¬ nI k < nI 0 := by rw [nI_ltI (by omega) (by decide)]; omega
    have a2 : nI k ≤ nI 6 := by rw [nI_leI (by omega) (by decide)]; exact hk
    refine ⟨lN (Wy (RA B) 11 (2 ^ n - 1).testBit k), υ, ?_, fr_mono q2 (fun l j q => ?_), fun τ hm => ?_⟩
    · simp only [f_12033, a1, a2, la_100, la_102, la_103, la_104, la_105, la_110, la_111, la_112, la_113, la_114, la_115, la_116, la_117, la_120, la_121, la_122, la_123, la_124, la_125, la_126, la_127, la_130, la_131, la_132, la_133, la_134, la_135, la_136, la_137, la_140, la_141, la_142, la_143, la_144, la_145, la_146, la_147, la_150, la_151, la_152, la_153, la_160, la_161, la_170, la_171, la_172, la_173, la_174, la_180, la_181, la_182, la_183, la_184, la_185, la_186, la_190, la_191, la_192, la_193, la_194, la_195, la_200, la_201, la_202, la_210, la_211, la_212, la_213, la_214, la_215, la_216, la_217, la_218, la_219, la_220, la_221, la_222, la_223, la_224, la_225, la_226, la_230, la_231, la_232, la_233, la_234, la_240, la_241, rc_100_0 hR, rc_100_1 hR, rc_100_2 hR, rc_100_3 hR, rc_100_4 hR, rc_100_5 hR, rc_100_6 hR, rc_100_7 hR, rc_100_8 hR, rc_100_9 hR, rc_100_10 hR, rc_100_11 hR, rc_100_12 hR, rc_100_13 hR, rc_100_14 hR, rc_100_15 hR, rc_111_1 hR, rc_113_1 hR, rc_113_2 hR, rc_113_3 hR, rc_110_0 hR, rc_110_1 hR, rc_110_5 hR, rc_121_1 hR, rc_123_1 hR, rc_123_2 hR, rc_123_3 hR, rc_120_0 hR, rc_120_1 hR, rc_120_5 hR, rc_131_1 hR, rc_133_1 hR, rc_133_2 hR, rc_133_3 hR, rc_130_0 hR, rc_130_1 hR, rc_130_5 hR, rc_141_1 hR, rc_143_1 hR, rc_143_2 hR, rc_143_3 hR, rc_140_0 hR, rc_140_1 hR, rc_140_5 hR, rc_150_3 hR, rc_150_4 hR, rc_150_5 hR, rc_150_6 hR, rc_160_0 hR, rc_173_1 hR, rc_170_0 hR, rc_170_1 hR, rc_181_0 hR, rc_185_1 hR, rc_180_0 hR, rc_180_1 hR, rc_180_2 hR, rc_192_1 hR, rc_194_1 hR, rc_190_0 hR, rc_201_1 hR, rc_200_0 hR, rc_214_1 hR, rc_211_0 hR, rc_211_1 hR, rc_216_1 hR, rc_221_1 hR, rc_221_2 hR, rc_221_3 hR, rc_225_1 hR, rc_210_0 hR, rc_210_1 hR, rc_210_2 hR, rc_210_3 hR, rc_210_4 hR, rc_231_1 hR, rc_233_1 hR, rc_230_0 hR, rc_230_1 hR, rc_240_1 hR, gd_tt, oA_arr, px_obj_s, Option.bind_some, Option.map_some, Option.bind_none, eq_self, true_or, or_true, px_av_0, px_av_1, px_av_2, px_av_10, px_av_11, bn, wi_1, wi_2, wl_1, wl_21, wl_22, wr_1, wr_21, wr_22, Sum.elim_inl, Sum.elim_inr, ↓reduceIte, Nat.reduceLT, Nat.reduceLeDiff, not_false_eq_true, not_true_eq_false, Nat.reduceEqDiff, Nat.reduceAdd, reduceCtorEq, and_true, true_and, and_false, false_and, false_or, or_false, q1]
    · simp only [SC, Bool.and_eq_false_iff, decide_eq_false_iff_not] at q
      simp only [on, beq_eq_false_iff_ne]
      omega
    · obtain ⟨b, w1, ω, rfl, w2⟩ := e_ways (mo_thr hm) hk
      refine ⟨ω, ?_, fr_tr (fr_thr (fr_rf _ _)) (SM_S2 w2)⟩
      have e1 := e_withinN (px_wi τ 0 0 (nI 0)) (nI k) (lo := 0) (hi := 6) (by decide) (by decide)
      rw [decide_eq_true (by rw [nI_toInt (by omega)]; omega)] at e1
      simp only [f_93, la_0, gd_tt, oA_arr, px_obj_s, Option.bind_some, Option.map_some, Option.bind_none, eq_self, true_or, or_true, px_av_0, px_av_1, px_av_2, px_av_10, px_av_11, bn, wi_1, wi_2, wl_1, wl_21, wl_22, wr_1, wr_21, wr_22, Sum.elim_inl, Sum.elim_inr, ↓reduceIte, Nat.reduceLT, Nat.reduceLeDiff, not_false_eq_true, not_true_eq_false, Nat.reduceEqDiff, Nat.reduceAdd, reduceCtorEq, and_true, true_and, and_false, false_and, false_or, or_false, e1, mb_t, w1]
      try rfl
  · refine ⟨-3, σ, ?_, fr_rf _ _, fun τ hm => ⟨_, ?_, fr_thr (fr_rf _ _)⟩⟩
    · unfold f_12033
      exact rg_no (by decide) (by decide) hno
    · have e1 := e_withinN (px_wi τ 0 0 (nI 0)) v (lo := 0) (hi := 6) (by decide) (by decide)
      rw [decide_eq_false hno] at e1
      simp only [f_93, la_0, gd_tt, oA_arr, px_obj_s, Option.bind_some, Option.map_some, Option.bind_none, eq_self, true_or, or_true, px_av_0, px_av_1, px_av_2, px_av_10, px_av_11, bn, wi_1, wi_2, wl_1, wl_21, wl_22, wr_1, wr_21, wr_22, Sum.elim_inl, Sum.elim_inr, ↓reduceIte, Nat.reduceLT, Nat.reduceLeDiff, not_false_eq_true, not_true_eq_false, Nat.reduceEqDiff, Nat.reduceAdd, reduceCtorEq, and_true, true_and, and_false, false_and, false_or, or_false, e1, mb_f]
      try rfl
end
