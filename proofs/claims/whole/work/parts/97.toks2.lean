/-! the class's tokens, second half -/
section
variable {σ τ : px_M} {b : Nat → Nat} {e p s q : Nat}
theorem k_word (ht : tpc σ b e) (hsq : s < q) (hq : q ≤ e) : ∃ κ, f_9012 tT σ 150 (nI s) (nI q) = some (nI (tcd κ 0)) ∧ wdp b s q κ := by
  have p0 := k_spell ht (L := 1003) (i := 0) (by omega) la_1003 la_1103 (W_v 0 (by omega)) hsq hq
  have p1 := k_spell ht (L := 1004) (i := 1) (by omega) la_1004 la_1104 (W_v 1 (by omega)) hsq hq
  have p2 := k_spell ht (L := 1005) (i := 2) (by omega) la_1005 la_1105 (W_v 2 (by omega)) hsq hq
  have p3 := k_spell ht (L := 1006) (i := 3) (by omega) la_1006 la_1106 (W_v 3 (by omega)) hsq hq
  have p6 := k_spell ht (L := 1007) (i := 6) (by omega) la_1007 la_1107 (W_v 4 (by omega)) hsq hq
  have p5 := k_spell ht (L := 1008) (i := 5) (by omega) la_1008 la_1108 (W_v 5 (by omega)) hsq hq
  have p4 := k_spell ht (L := 1009) (i := 4) (by omega) la_1009 la_1109 (W_v 6 (by omega)) hsq hq
  have p7 := k_spell ht (L := 1010) (i := 7) (by omega) la_1010 la_1110 (W_v 7 (by omega)) hsq hq
  have p8 := k_spell ht (L := 1011) (i := 8) (by omega) la_1011 la_1111 (W_v 8 (by omega)) hsq hq
  have p9 := k_spell ht (L := 1012) (i := 9) (by omega) la_1012 la_1112 (W_v 9 (by omega)) hsq hq
  have p10 := k_spell ht (L := 1013) (i := 10) (by omega) la_1013 la_1113 (W_v 10 (by omega)) hsq hq
  have p11 := k_spell ht (L := 1014) (i := 11) (by omega) la_1014 la_1114 (W_v 11 (by omega)) hsq hq
  have p12 := k_spell ht (L := 1015) (i := 12) (by omega) la_1015 la_1115 (W_v 12 (by omega)) hsq hq
  have p13 := k_spell ht (L := 1016) (i := 13) (by omega) la_1016 la_1116 (W_v 13 (by omega)) hsq hq
  have p14 := k_spell ht (L := 1017) (i := 14) (by omega) la_1017 la_1117 (W_v 14 (by omega)) hsq hq
  by_cases h0 : eqw b s q 0
  · refine ⟨0, ?_, Or.inl ⟨by omega, h0⟩⟩
    rw [if_pos h0] at p0
    unfold f_9012 f_9012_45 f_9012_90 f_9012_86 f_9012_41 f_9013 f_9013_45 f_9013_90 f_9013_86 f_9013_41
    simp only [la_150, p0, n10, gd_tt, oA_arr, px_obj_s, Option.bind_some, Option.map_some, Option.bind_none, eq_self, true_or, or_true, px_av_0, px_av_1, px_av_2, px_av_10, px_av_11, bn, wi_1, wi_2, wl_1, wl_21, wl_22, wr_1, wr_21, wr_22, Sum.elim_inl, Sum.elim_inr, ↓reduceIte, Nat.reduceLT, Nat.reduceLeDiff, not_false_eq_true, not_true_eq_false, Nat.reduceEqDiff, Nat.reduceAdd, reduceCtorEq, and_true, true_and, and_false, false_and, false_or, or_false]
    rfl
  rw [if_neg h0] at p0
  by_cases h1 : eqw b s q 1
  · refine ⟨1, ?_, Or.inl ⟨by omega, h1⟩⟩
    rw [if_pos h1] at p1
    unfold f_9012 f_9012_45 f_9012_90 f_9012_86 f_9012_41 f_9013 f_9013_45 f_9013_90 f_9013_86 f_9013_41
    simp only [la_150, p0, p1, n10, gd_tt, oA_arr, px_obj_s, Option.bind_some, Option.map_some, Option.bind_none, eq_self, true_or, or_true, px_av_0, px_av_1, px_av_2, px_av_10, px_av_11, bn, wi_1, wi_2, wl_1, wl_21, wl_22, wr_1, wr_21, wr_22, Sum.elim_inl, Sum.elim_inr, ↓reduceIte, Nat.reduceLT, Nat.reduceLeDiff, not_false_eq_true, not_true_eq_false, Nat.reduceEqDiff, Nat.reduceAdd, reduceCtorEq, and_true, true_and, and_false, false_and, false_or, or_false]
    rfl
  rw [if_neg h1] at p1
  by_cases h2 : eqw b s q 2
  · refine ⟨2, ?_, Or.inl ⟨by omega, h2⟩⟩
    rw [if_pos h2] at p2
    unfold f_9012 f_9012_45 f_9012_90 f_9012_86 f_9012_41 f_9013 f_9013_45 f_9013_90 f_9013_86 f_9013_41
    simp only [la_150, p0, p1, p2, n10, gd_tt, oA_arr, px_obj_s, Option.bind_some, Option.map_some, Option.bind_none, eq_self, true_or, or_true, px_av_0, px_av_1, px_av_2, px_av_10, px_av_11, bn, wi_1, wi_2, wl_1, wl_21, wl_22, wr_1, wr_21, wr_22, Sum.elim_inl, Sum.elim_inr, ↓reduceIte, Nat.reduceLT, Nat.reduceLeDiff, not_false_eq_true, not_true_eq_false, Nat.reduceEqDiff, Nat.reduceAdd, reduceCtorEq, and_true, true_and, and_false, false_and, false_or, or_false]
    rfl
  rw [if_neg h2] at p2
  by_cases h3 : eqw b s q 3
  · refine ⟨3, ?_, Or.inl ⟨by omega, h3⟩⟩
    rw [if_pos h3] at p3
    unfold f_9012 f_9012_45 f_9012_90 f_9012_86 f_9012_41 f_9013 f_9013_45 f_9013_90 f_9013_86 f_9013_41
    simp only [la_150, p0, p1, p2, p3, n10, gd_tt, oA_arr, px_obj_s, Option.bind_some, Option.map_some, Option.bind_none, eq_self, true_or, or_true, px_av_0, px_av_1, px_av_2, px_av_10, px_av_11, bn, wi_1, wi_2, wl_1, wl_21, wl_22, wr_1, wr_21, wr_22, Sum.elim_inl, Sum.elim_inr, ↓reduceIte, Nat.reduceLT, Nat.reduceLeDiff, not_false_eq_true, not_true_eq_false, Nat.reduceEqDiff, Nat.reduceAdd, reduceCtorEq, and_true, true_and, and_false, false_and, false_or, or_false]
    rfl
  rw [if_neg h3] at p3
  by_cases h6 : eqw b s q 6
  · refine ⟨6, ?_, Or.inl ⟨by omega, h6⟩⟩
    rw [if_pos h6] at p6
    unfold f_9012 f_9012_45 f_9012_90 f_9012_86 f_9012_41 f_9013 f_9013_45 f_9013_90 f_9013_86 f_9013_41
    simp only [la_150, p0, p1, p2, p3, p6, n10, gd_tt, oA_arr, px_obj_s, Option.bind_some, Option.map_some, Option.bind_none, eq_self, true_or, or_true, px_av_0, px_av_1, px_av_2, px_av_10, px_av_11, bn, wi_1, wi_2, wl_1, wl_21, wl_22, wr_1, wr_21, wr_22, Sum.elim_inl, Sum.elim_inr, ↓reduceIte, Nat.reduceLT, Nat.reduceLeDiff, not_false_eq_true, not_true_eq_false, Nat.reduceEqDiff, Nat.reduceAdd, reduceCtorEq, and_true, true_and, and_false, false_and, false_or, or_false]
    rfl
  rw [if_neg h6] at p6
  by_cases h5 : eqw b s q 5
  · refine ⟨5, ?_, Or.inl ⟨by omega, h5⟩⟩
    rw [if_pos h5] at p5
    unfold f_9012 f_9012_45 f_9012_90 f_9012_86 f_9012_41 f_9013 f_9013_45 f_9013_90 f_9013_86 f_9013_41
    simp only [la_150, p0, p1, p2, p3, p6, p5, n10, gd_tt, oA_arr, px_obj_s, Option.bind_some, Option.map_some, Option.bind_none, eq_self, true_or, or_true, px_av_0, px_av_1, px_av_2, px_av_10, px_av_11, bn, wi_1, wi_2, wl_1, wl_21, wl_22, wr_1, wr_21, wr_22, Sum.elim_inl, Sum.elim_inr, ↓reduceIte, Nat.reduceLT, Nat.reduceLeDiff, not_false_eq_true, not_true_eq_false, Nat.reduceEqDiff, Nat.reduceAdd, reduceCtorEq, and_true, true_and, and_false, false_and, false_or, or_false]
    rfl
  rw [if_neg h5] at p5
  by_cases h4 : eqw b s q 4
  · refine ⟨4, ?_, Or.inl ⟨by omega, h4⟩⟩
    rw [if_pos h4] at p4
    unfold f_9012 f_9012_45 f_9012_90 f_9012_86 f_9012_41 f_9013 f_9013_45 f_9013_90 f_9013_86 f_9013_41
    simp only [la_150, p0, p1, p2, p3, p6, p5, p4, n10, gd_tt, oA_arr, px_obj_s, Option.bind_some, Option.map_some, Option.bind_none, eq_self, true_or, or_true, px_av_0, px_av_1, px_av_2, px_av_10, px_av_11, bn, wi_1, wi_2, wl_1, wl_21, wl_22, wr_1, wr_21, wr_22, Sum.elim_inl, Sum.elim_inr, ↓reduceIte, Nat.reduceLT, Nat.reduceLeDiff, not_false_eq_true, not_true_eq_false, Nat.reduceEqDiff, Nat.reduceAdd, reduceCtorEq, and_true, true_and, and_false, false_and, false_or, or_false]
    rfl
  rw [if_neg h4] at p4
  by_cases h7 : eqw b s q 7
  · refine ⟨7, ?_, Or.inl ⟨by omega, h7⟩⟩
    rw [if_pos h7] at p7
    unfold f_9012 f_9012_45 f_9012_90 f_9012_86 f_9012_41 f_9013 f_9013_45 f_9013_90 f_9013_86 f_9013_41
    simp only [la_150, p0, p1, p2, p3, p6, p5, p4, p7, n10, gd_tt, oA_arr, px_obj_s, Option.bind_some, Option.map_some, Option.bind_none, eq_self, true_or, or_true, px_av_0, px_av_1, px_av_2, px_av_10, px_av_11, bn, wi_1, wi_2, wl_1, wl_21, wl_22, wr_1, wr_21, wr_22, Sum.elim_inl, Sum.elim_inr, ↓reduceIte, Nat.reduceLT, Nat.reduceLeDiff, not_false_eq_true, not_true_eq_false, Nat.reduceEqDiff, Nat.reduceAdd, reduceCtorEq, and_true, true_and, and_false, false_and, false_or, or_false]
    rfl
  rw [if_neg h7] at p7
  by_cases h8 : eqw b s q 8
  · refine ⟨8, ?_, Or.inl ⟨by omega, h8⟩⟩
    rw [if_pos h8] at p8
    unfold f_9012 f_9012_45 f_9012_90 f_9012_86 f_9012_41 f_9013 f_9013_45 f_9013_90 f_9013_86 f_9013_41
    simp only [la_150, p0, p1, p2, p3, p6, p5, p4, p7, p8, n10, gd_tt, oA_arr, px_obj_s, Option.bind_some, Option.map_some, Option.bind_none, eq_self, true_or, or_true, px_av_0, px_av_1, px_av_2, px_av_10, px_av_11, bn, wi_1, wi_2, wl_1, wl_21, wl_22, wr_1, wr_21, wr_22, Sum.elim_inl, Sum.elim_inr, ↓reduceIte, Nat.reduceLT, Nat.reduceLeDiff, not_false_eq_true, not_true_eq_false, Nat.reduceEqDiff, Nat.reduceAdd, reduceCtorEq, and_true, true_and, and_false, false_and, false_or, or_false]
    rfl
  rw [if_neg h8] at p8
  by_cases h9 : eqw b s q 9
  · refine ⟨9, ?_, Or.inl ⟨by omega, h9⟩⟩
    rw [if_pos h9] at p9
    unfold f_9012 f_9012_45 f_9012_90 f_9012_86 f_9012_41 f_9013 f_9013_45 f_9013_90 f_9013_86 f_9013_41
    simp only [la_150, p0, p1, p2, p3, p6, p5, p4, p7, p8, p9, n10, gd_tt, oA_arr, px_obj_s, Option.bind_some, Option.map_some, Option.bind_none, eq_self, true_or, or_true, px_av_0, px_av_1, px_av_2, px_av_10, px_av_11, bn, wi_1, wi_2, wl_1, wl_21, wl_22, wr_1, wr_21, wr_22, Sum.elim_inl, Sum.elim_inr, ↓reduceIte, Nat.reduceLT, Nat.reduceLeDiff, not_false_eq_true, not_true_eq_false, Nat.reduceEqDiff, Nat.reduceAdd, reduceCtorEq, and_true, true_and, and_false, false_and, false_or, or_false]
    rfl
  rw [if_neg h9] at p9
  by_cases h10 : eqw b s q 10
  · refine ⟨10, ?_, Or.inl ⟨by omega, h10⟩⟩
    rw [if_pos h10] at p10
    unfold f_9012 f_9012_45 f_9012_90 f_9012_86 f_9012_41 f_9013 f_9013_45 f_9013_90 f_9013_86 f_9013_41
    simp only [la_150, p0, p1, p2, p3, p6, p5, p4, p7, p8, p9, p10, n10, gd_tt, oA_arr, px_obj_s, Option.bind_some, Option.map_some, Option.bind_none, eq_self, true_or, or_true, px_av_0, px_av_1, px_av_2, px_av_10, px_av_11, bn, wi_1, wi_2, wl_1, wl_21, wl_22, wr_1, wr_21, wr_22, Sum.elim_inl, Sum.elim_inr, ↓reduceIte, Nat.reduceLT, Nat.reduceLeDiff, not_false_eq_true, not_true_eq_false, Nat.reduceEqDiff, Nat.reduceAdd, reduceCtorEq, and_true, true_and, and_false, false_and, false_or, or_false]
    rfl
  rw [if_neg h10] at p10
  by_cases h11 : eqw b s q 11
  · refine ⟨11, ?_, Or.inl ⟨by omega, h11⟩⟩
    rw [if_pos h11] at p11
    unfold f_9012 f_9012_45 f_9012_90 f_9012_86 f_9012_41 f_9013 f_9013_45 f_9013_90 f_9013_86 f_9013_41
    simp only [la_150, p0, p1, p2, p3, p6, p5, p4, p7, p8, p9, p10, p11, n10, gd_tt, oA_arr, px_obj_s, Option.bind_some, Option.map_some, Option.bind_none, eq_self, true_or, or_true, px_av_0, px_av_1, px_av_2, px_av_10, px_av_11, bn, wi_1, wi_2, wl_1, wl_21, wl_22, wr_1, wr_21, wr_22, Sum.elim_inl, Sum.elim_inr, ↓reduceIte, Nat.reduceLT, Nat.reduceLeDiff, not_false_eq_true, not_true_eq_false, Nat.reduceEqDiff, Nat.reduceAdd, reduceCtorEq, and_true, true_and, and_false, false_and, false_or, or_false]
    rfl
  rw [if_neg h11] at p11
  by_cases h12 : eqw b s q 12
  · refine ⟨12, ?_, Or.inl ⟨by omega, h12⟩⟩
    rw [if_pos h12] at p12
    unfold f_9012 f_9012_45 f_9012_90 f_9012_86 f_9012_41 f_9013 f_9013_45 f_9013_90 f_9013_86 f_9013_41
    simp only [la_150, p0, p1, p2, p3, p6, p5, p4, p7, p8, p9, p10, p11, p12, n10, gd_tt, oA_arr, px_obj_s, Option.bind_some, Option.map_some, Option.bind_none, eq_self, true_or, or_true, px_av_0, px_av_1, px_av_2, px_av_10, px_av_11, bn, wi_1, wi_2, wl_1, wl_21, wl_22, wr_1, wr_21, wr_22, Sum.elim_inl, Sum.elim_inr, ↓reduceIte, Nat.reduceLT, Nat.reduceLeDiff, not_false_eq_true, not_true_eq_false, Nat.reduceEqDiff, Nat.reduceAdd, reduceCtorEq, and_true, true_and, and_false, false_and, false_or, or_false]
    rfl
  rw [if_neg h12] at p12
  by_cases h13 : eqw b s q 13
  · refine ⟨13, ?_, Or.inl ⟨by omega, h13⟩⟩
    rw [if_pos h13] at p13
    unfold f_9012 f_9012_45 f_9012_90 f_9012_86 f_9012_41 f_9013 f_9013_45 f_9013_90 f_9013_86 f_9013_41
    simp only [la_150, p0, p1, p2, p3, p6, p5, p4, p7, p8, p9, p10, p11, p12, p13, n10, gd_tt, oA_arr, px_obj_s, Option.bind_some, Option.map_some, Option.bind_none, eq_self, true_or, or_true, px_av_0, px_av_1, px_av_2, px_av_10, px_av_11, bn, wi_1, wi_2, wl_1, wl_21, wl_22, wr_1, wr_21, wr_22, Sum.elim_inl, Sum.elim_inr, ↓reduceIte, Nat.reduceLT, Nat.reduceLeDiff, not_false_eq_true, not_true_eq_false, Nat.reduceEqDiff, Nat.reduceAdd, reduceCtorEq, and_true, true_and, and_false, false_and, false_or, or_false]
    rfl
  rw [if_neg h13] at p13
  by_cases h14 : eqw b s q 14
  · refine ⟨14, ?_, Or.inl ⟨by omega, h14⟩⟩
    rw [if_pos h14] at p14
    unfold f_9012 f_9012_45 f_9012_90 f_9012_86 f_9012_41 f_9013 f_9013_45 f_9013_90 f_9013_86 f_9013_41
    simp only [la_150, p0, p1, p2, p3, p6, p5, p4, p7, p8, p9, p10, p11, p12, p13, p14, n10, gd_tt, oA_arr, px_obj_s, Option.bind_some, Option.map_some, Option.bind_none, eq_self, true_or, or_true, px_av_0, px_av_1, px_av_2, px_av_10, px_av_11, bn, wi_1, wi_2, wl_1, wl_21, wl_22, wr_1, wr_21, wr_22, Sum.elim_inl, Sum.elim_inr, ↓reduceIte, Nat.reduceLT, Nat.reduceLeDiff, not_false_eq_true, not_true_eq_false, Nat.reduceEqDiff, Nat.reduceAdd, reduceCtorEq, and_true, true_and, and_false, false_and, false_or, or_false]
    rfl
  rw [if_neg h14] at p14
  refine ⟨15, ?_, Or.inr ⟨rfl, fun i hi => ?_⟩⟩
  · unfold f_9012 f_9012_45 f_9012_90 f_9012_86 f_9012_41 f_9013 f_9013_45 f_9013_90 f_9013_86 f_9013_41
    simp only [la_150, p0, p1, p2, p3, p6, p5, p4, p7, p8, p9, p10, p11, p12, p13, p14, n10, gd_tt, oA_arr, px_obj_s, Option.bind_some, Option.map_some, Option.bind_none, eq_self, true_or, or_true, px_av_0, px_av_1, px_av_2, px_av_10, px_av_11, bn, wi_1, wi_2, wl_1, wl_21, wl_22, wr_1, wr_21, wr_22, Sum.elim_inl, Sum.elim_inr, ↓reduceIte, Nat.reduceLT, Nat.reduceLeDiff, not_false_eq_true, not_true_eq_false, Nat.reduceEqDiff, Nat.reduceAdd, reduceCtorEq, and_true, true_and, and_false, false_and, false_or, or_false]
    rfl
  · obtain rfl | rfl | rfl | rfl | rfl | rfl | rfl | rfl | rfl | rfl | rfl | rfl | rfl | rfl | rfl : i = 0 ∨ i = 1 ∨ i = 2 ∨ i = 3 ∨ i = 4 ∨ i = 5 ∨ i = 6 ∨ i = 7 ∨ i = 8 ∨ i = 9 ∨ i = 10 ∨ i = 11 ∨ i = 12 ∨ i = 13 ∨ i = 14 := by omega
    · exact h0
    · exact h1
    · exact h2
    · exact h3
    · exact h4
    · exact h5
    · exact h6
    · exact h7
    · exact h8
    · exact h9
    · exact h10
    · exact h11
    · exact h12
    · exact h13
    · exact h14
theorem k_idx {c : Nat} (hc : 0 < c) (hc2 : c < 128) : ∃ r, f_23005 tT σ 1002 (nI c) = some r ∧ ((r < nI 0 ∧ ∀ i, i < 12 → c ≠ SGf i) ∨ (¬ r < nI 0 ∧ ∃ i, i < 12 ∧ c = SGf i)) := by
  have ln : f_23000 tT σ 1002 = some (nI 12) := x_len la_1002 la_1102 (by omega)
  have key : ∀ k m, m + k = 12 → (∀ j, j < m → c ≠ SGf j) → ∃ r, f_24003_7 tT σ 1102 (nI 12) (nI c) (nI m) = some r ∧ ((r < nI 0 ∧ ∀ i, i < 12 → c ≠ SGf i) ∨ (¬ r < nI 0 ∧ ∃ i, i < 12 ∧ c = SGf i)) := by
    intro k
    induction k with
    | zero =>
      intro m hm hno
      have a1 : nI 12 ≤ nI m := by rw [nI_leI (by omega) (by omega)]; omega
      refine ⟨-1, ?_, Or.inl ⟨by decide, fun i hi => hno i (by omega)⟩⟩
      unfold f_24003_7
      refine lp_end ?_
      unfold F_24003_7
      simp only [a1, gd_tt, oA_arr, px_obj_s, Option.bind_some, Option.map_some, Option.bind_none, eq_self, true_or, or_true, px_av_0, px_av_1, px_av_2, px_av_10, px_av_11, bn, wi_1, wi_2, wl_1, wl_21, wl_22, wr_1, wr_21, wr_22, Sum.elim_inl, Sum.elim_inr, ↓reduceIte, Nat.reduceLT, Nat.reduceLeDiff, not_false_eq_true, not_true_eq_false, Nat.reduceEqDiff, Nat.reduceAdd, reduceCtorEq, and_true, true_and, and_false, false_and, false_or, or_false]
    | succ k ih =>
      intro m hm hno
      have a1 : ¬ nI 12 ≤ nI m := by rw [nI_leI (by omega) (by omega)]; omega
      have c1 : vp_in (nI m) 12 := (vp_in_eq (by omega)).mpr (by omega)
      have c2 : (nI m).toNatClampNeg = m := nI_clamp (by omega)
      obtain ⟨-, v1, v2, v3⟩ := SG_v m (by omega)
      by_cases hq : c = SGf m
      · have a2 : nI (SGf m) = nI c := by rw [hq]
        refine ⟨nI m, ?_, Or.inr ⟨by rw [nI_ltI (by omega) (by omega)]; omega, m, by omega, hq⟩⟩
        unfold f_24003_7
        refine lp_end ?_
        unfold F_24003_7
        simp only [a1, a2, la_1102, c1, c2, v1, gd_tt, oA_arr, px_obj_s, Option.bind_some, Option.map_some, Option.bind_none, eq_self, true_or, or_true, px_av_0, px_av_1, px_av_2, px_av_10, px_av_11, bn, wi_1, wi_2, wl_1, wl_21, wl_22, wr_1, wr_21, wr_22, Sum.elim_inl, Sum.elim_inr, ↓reduceIte, Nat.reduceLT, Nat.reduceLeDiff, not_false_eq_true, not_true_eq_false, Nat.reduceEqDiff, Nat.reduceAdd, reduceCtorEq, and_true, true_and, and_false, false_and, false_or, or_false]
      · have a2 : ¬ nI (SGf m) = nI c := by rw [nI_eq (by omega) (by omega)]; omega
        obtain ⟨r, y1, y2⟩ := ih (m + 1) (by omega) (fun j hj => by
          by_cases hjm : j = m
          · subst hjm; exact hq
          · exact hno j (by omega))
        refine ⟨r, ?_, y2⟩
        unfold f_24003_7 at y1 ⊢
        rw [lp_next (a' := nI (m + 1)) (by
          unfold F_24003_7
          simp only [a1, a2, la_1102, c1, c2, v1, nI_add, gd_tt, oA_arr, px_obj_s, Option.bind_some, Option.map_some, Option.bind_none, eq_self, true_or, or_true, px_av_0, px_av_1, px_av_2, px_av_10, px_av_11, bn, wi_1, wi_2, wl_1, wl_21, wl_22, wr_1, wr_21, wr_22, Sum.elim_inl, Sum.elim_inr, ↓reduceIte, Nat.reduceLT, Nat.reduceLeDiff, not_false_eq_true, not_true_eq_false, Nat.reduceEqDiff, Nat.reduceAdd, reduceCtorEq, and_true, true_and, and_false, false_and, false_or, or_false])]
        exact y1
  obtain ⟨r, y1, y2⟩ := key 12 0 (by omega) (fun j hj => by omega)
  refine ⟨r, ?_, y2⟩
  have n1 : ¬ nI 1 = nI 0 := by decide
  have b1 : ¬ nI c < nI 0 := by rw [nI_ltI (by omega) (by omega)]; omega
  have b2 : ¬ nI 255 < nI c := by rw [nI_ltI (by omega) (by omega)]; omega
  have b3 : ¬ nI 0 < nI 0 := by decide
  have b4 : ¬ nI 12 < nI 12 := by decide
  have b5 : nI 0 < nI 12 := by decide
  have b6 : (nI c).toInt8.toInt32 = nI c := sb_lo c hc2
  unfold f_23005 f_23006 f_23003 f_24001 f_24002 f_24001_22 f_24003
  simp only [la_1002, la_1102, ln, n1, b1, b2, b3, b4, b5, b6, y1, gd_tt, oA_arr, px_obj_s, Option.bind_some, Option.map_some, Option.bind_none, eq_self, true_or, or_true, px_av_0, px_av_1, px_av_2, px_av_10, px_av_11, bn, wi_1, wi_2, wl_1, wl_21, wl_22, wr_1, wr_21, wr_22, Sum.elim_inl, Sum.elim_inr, ↓reduceIte, Nat.reduceLT, Nat.reduceLeDiff, not_false_eq_true, not_true_eq_false, Nat.reduceEqDiff, Nat.reduceAdd, reduceCtorEq, and_true, true_and, and_false, false_and, false_or, or_false]
theorem tcd_sg (i : Nat) : tcd (20 + i) 0 = 4000 + SGf i := by
  unfold tcd
  rw [if_neg (by omega), if_pos (by omega), Nat.add_sub_cancel_left]
/-- the token that begins at s -/
theorem k_token (ht : tpc σ b e) (hps : p ≤ s) (hse : s < e) (hbk : ∀ i, p ≤ i → i < s → blk b i) (hnb : ¬ blk b s) : ∃ q κ v, f_9010 tT σ 150 (nI s) = some (nI q) ∧ (∀ χ, tpc χ b e → f_9011 tT χ 150 (nI s) (nI q) = some (nI (tcd κ v))) ∧ tkn b e p s q κ v ∧ κ ≠ 17 := by
  have he := ht.2.2.1
  have kl := k_letter ht hse
  have kd := k_digit ht hse
  obtain ⟨r1, r2⟩ := k_run ht hse
  by_cases hl : ltr b s
  · obtain ⟨q, y1, y2⟩ := r1 hl
    obtain ⟨κ, z1, z2⟩ := k_word ht y2.1 y2.2.1
    rw [if_pos hl] at kl
    refine ⟨q, κ, 0, ?_, fun χ hχ => ?_, ⟨⟨hps, by omega, hbk⟩, Or.inr ⟨hse, hnb, Or.inl ⟨hl, y2, z2, rfl⟩⟩⟩, fun h => ?_⟩
    · unfold f_9010 f_9010_4
      simp only [la_150, kl, n10, nI_add, y1, gd_tt, oA_arr, px_obj_s, Option.bind_some, Option.map_some, Option.bind_none, eq_self, true_or, or_true, px_av_0, px_av_1, px_av_2, px_av_10, px_av_11, bn, wi_1, wi_2, wl_1, wl_21, wl_22, wr_1, wr_21, wr_22, Sum.elim_inl, Sum.elim_inr, ↓reduceIte, Nat.reduceLT, Nat.reduceLeDiff, not_false_eq_true, not_true_eq_false, Nat.reduceEqDiff, Nat.reduceAdd, reduceCtorEq, and_true, true_and, and_false, false_and, false_or, or_false]
    · obtain ⟨κ', w1, w2⟩ := k_word hχ y2.1 y2.2.1
      have kl' := k_letter hχ hse
      rw [if_pos hl] at kl'
      rw [wdp_u w2 z2] at w1
      unfold f_9011
      simp only [la_150, kl', n10, w1, gd_tt, oA_arr, px_obj_s, Option.bind_some, Option.map_some, Option.bind_none, eq_self, true_or, or_true, px_av_0, px_av_1, px_av_2, px_av_10, px_av_11, bn, wi_1, wi_2, wl_1, wl_21, wl_22, wr_1, wr_21, wr_22, Sum.elim_inl, Sum.elim_inr, ↓reduceIte, Nat.reduceLT, Nat.reduceLeDiff, not_false_eq_true, not_true_eq_false, Nat.reduceEqDiff, Nat.reduceAdd, reduceCtorEq, and_true, true_and, and_false, false_and, false_or, or_false]
    · rcases z2 with ⟨z, -⟩ | ⟨z, -⟩ <;> omega
  · rw [if_neg hl] at kl
    by_cases hd : dgt b s
    · obtain ⟨q, y1, y2⟩ := r2 hd
      rw [if_pos hd] at kd
      have e1 : f_9010 tT σ 150 (nI s) = some (nI q) := by
        unfold f_9010 f_9010_4
        simp only [la_150, kl, kd, n10, nI_add, y1, gd_tt, oA_arr, px_obj_s, Option.bind_some, Option.map_some, Option.bind_none, eq_self, true_or, or_true, px_av_0, px_av_1, px_av_2, px_av_10, px_av_11, bn, wi_1, wi_2, wl_1, wl_21, wl_22, wr_1, wr_21, wr_22, Sum.elim_inl, Sum.elim_inr, ↓reduceIte, Nat.reduceLT, Nat.reduceLeDiff, not_false_eq_true, not_true_eq_false, Nat.reduceEqDiff, Nat.reduceAdd, reduceCtorEq, and_true, true_and, and_false, false_and, false_or, or_false]
      have q1 := y2.1
      have q2 := y2.2.1
      by_cases h3 : q ≤ s + 3
      · refine ⟨q, 16, vl b s (q - s), e1, fun χ hχ => ?_, ⟨⟨hps, by omega, hbk⟩, Or.inr ⟨hse, hnb, Or.inr (Or.inl ⟨hd, y2, Or.inl ⟨h3, rfl, rfl⟩⟩)⟩⟩, by decide⟩
        have kl' := k_letter hχ hse
        rw [if_neg hl] at kl'
        have kd' := k_digit hχ hse
        rw [if_pos hd] at kd'
        have a1 : nI (q - s) ≤ nI 3 := by rw [nI_leI (by omega) (by omega)]; omega
        have lp : f_9011_71 tT χ 150 (nI q) (nI 0) (nI s) = some (nI (vl b s (q - s))) := by
          unfold f_9011_71
          have := lp_to (F := fun x : Int32 × Int32 => F_9011_71 tT χ 150 (nI q) x.1 x.2) (b := nI (vl b s (q - s))) (fun j => (nI (vl b s j), nI (s + j))) (q - s) (fun j hj => by
            have a2 : ¬ nI q ≤ nI (s + j) := by rw [nI_leI (by omega) (by omega)]; omega
            have kb := k_byte hχ (p := s + j) (by omega)
            rw [if_pos (show s + j < e by omega)] at kb
            have hdj := y2.2.2.1 (s + j) (by omega) (by omega)
            unfold dgt at hdj
            rw [sb_lo _ (show b (s + j) < 128 by omega)] at kb
            have ar : nI 10 * nI (vl b s j) + nI (b (s + j)) - nI 48 = nI (vl b s (j + 1)) := by
              rw [pk_mul, nI_add, ni_subL (show 48 ≤ 10 * vl b s j + b (s + j) by omega)]
              simp only [vl]
              congr 1; omega
            dsimp only
            unfold F_9011_71 f_9011_92
            simp only [a2, la_150, kb, ar, nI_add, gd_tt, oA_arr, px_obj_s, Option.bind_some, Option.map_some, Option.bind_none, eq_self, true_or, or_true, px_av_0, px_av_1, px_av_2, px_av_10, px_av_11, bn, wi_1, wi_2, wl_1, wl_21, wl_22, wr_1, wr_21, wr_22, Sum.elim_inl, Sum.elim_inr, ↓reduceIte, Nat.reduceLT, Nat.reduceLeDiff, not_false_eq_true, not_true_eq_false, Nat.reduceEqDiff, Nat.reduceAdd, reduceCtorEq, and_true, true_and, and_false, false_and, false_or, or_false]
            rfl) (by
            have a2 : nI q ≤ nI (s + (q - s)) := by rw [nI_leI (by omega) (by omega)]; omega
            dsimp only
            unfold F_9011_71
            simp only [a2, gd_tt, oA_arr, px_obj_s, Option.bind_some, Option.map_some, Option.bind_none, eq_self, true_or, or_true, px_av_0, px_av_1, px_av_2, px_av_10, px_av_11, bn, wi_1, wi_2, wl_1, wl_21, wl_22, wr_1, wr_21, wr_22, Sum.elim_inl, Sum.elim_inr, ↓reduceIte, Nat.reduceLT, Nat.reduceLeDiff, not_false_eq_true, not_true_eq_false, Nat.reduceEqDiff, Nat.reduceAdd, reduceCtorEq, and_true, true_and, and_false, false_and, false_or, or_false]) 0 (by omega)
          exact this
        have tc : tcd 16 (vl b s (q - s)) = vl b s (q - s) := rfl
        rw [tc]
        unfold f_9011 f_9011_68
        simp only [la_150, kl', kd', n10, ni_subL (show s ≤ q by omega), a1, lp, gd_tt, oA_arr, px_obj_s, Option.bind_some, Option.map_some, Option.bind_none, eq_self, true_or, or_true, px_av_0, px_av_1, px_av_2, px_av_10, px_av_11, bn, wi_1, wi_2, wl_1, wl_21, wl_22, wr_1, wr_21, wr_22, Sum.elim_inl, Sum.elim_inr, ↓reduceIte, Nat.reduceLT, Nat.reduceLeDiff, not_false_eq_true, not_true_eq_false, Nat.reduceEqDiff, Nat.reduceAdd, reduceCtorEq, and_true, true_and, and_false, false_and, false_or, or_false]
      · refine ⟨q, 18, 0, e1, fun χ hχ => ?_, ⟨⟨hps, by omega, hbk⟩, Or.inr ⟨hse, hnb, Or.inr (Or.inl ⟨hd, y2, Or.inr ⟨by omega, rfl, rfl⟩⟩)⟩⟩, by decide⟩
        have kl' := k_letter hχ hse
        rw [if_neg hl] at kl'
        have kd' := k_digit hχ hse
        rw [if_pos hd] at kd'
        have a1 : ¬ nI (q - s) ≤ nI 3 := by rw [nI_leI (by omega) (by omega)]; omega
        have tc : tcd 18 0 = 3004 := rfl
        rw [tc]
        unfold f_9011
        simp only [la_150, kl', kd', n10, ni_subL (show s ≤ q by omega), a1, gd_tt, oA_arr, px_obj_s, Option.bind_some, Option.map_some, Option.bind_none, eq_self, true_or, or_true, px_av_0, px_av_1, px_av_2, px_av_10, px_av_11, bn, wi_1, wi_2, wl_1, wl_21, wl_22, wr_1, wr_21, wr_22, Sum.elim_inl, Sum.elim_inr, ↓reduceIte, Nat.reduceLT, Nat.reduceLeDiff, not_false_eq_true, not_true_eq_false, Nat.reduceEqDiff, Nat.reduceAdd, reduceCtorEq, and_true, true_and, and_false, false_and, false_or, or_false]
    · rw [if_neg hd] at kd
      have e1 : f_9010 tT σ 150 (nI s) = some (nI (s + 1)) := by
        unfold f_9010 f_9010_4 f_9010_64
        simp only [la_150, kl, kd, nI_add, gd_tt, oA_arr, px_obj_s, Option.bind_some, Option.map_some, Option.bind_none, eq_self, true_or, or_true, px_av_0, px_av_1, px_av_2, px_av_10, px_av_11, bn, wi_1, wi_2, wl_1, wl_21, wl_22, wr_1, wr_21, wr_22, Sum.elim_inl, Sum.elim_inr, ↓reduceIte, Nat.reduceLT, Nat.reduceLeDiff, not_false_eq_true, not_true_eq_false, Nat.reduceEqDiff, Nat.reduceAdd, reduceCtorEq, and_true, true_and, and_false, false_and, false_or, or_false]
      have hb := ht.2.2.2.2 s
      have tc : tcd 18 0 = 3004 := rfl
      have ps : ∀ χ, tpc χ b e → f_9011 tT χ 150 (nI s) (nI (s + 1)) = f_9011_29 tT χ (sb (b s)) := fun χ hχ => by
        have kl' := k_letter hχ hse
        rw [if_neg hl] at kl'
        have kd' := k_digit hχ hse
        rw [if_neg hd] at kd'
        have kb := k_byte hχ (p := s) (by omega)
        rw [if_pos hse] at kb
        unfold f_9011
        simp only [la_150, kl', kd', kb, gd_tt, oA_arr, px_obj_s, Option.bind_some, Option.map_some, Option.bind_none, eq_self, true_or, or_true, px_av_0, px_av_1, px_av_2, px_av_10, px_av_11, bn, wi_1, wi_2, wl_1, wl_21, wl_22, wr_1, wr_21, wr_22, Sum.elim_inl, Sum.elim_inr, ↓reduceIte, Nat.reduceLT, Nat.reduceLeDiff, not_false_eq_true, not_true_eq_false, Nat.reduceEqDiff, Nat.reduceAdd, reduceCtorEq, and_true, true_and, and_false, false_and, false_or, or_false]
      have mk : ∀ κ, sgp (b s) κ → tkn b e p s (s + 1) κ 0 := fun κ hκ => ⟨⟨hps, by omega, hbk⟩, Or.inr ⟨hse, hnb, Or.inr (Or.inr ⟨hl, hd, rfl, hκ, rfl⟩)⟩⟩
      by_cases h0 : b s = 0 ∨ 128 ≤ b s
      · refine ⟨s + 1, 18, 0, e1, fun χ hχ => ?_, mk 18 (Or.inr ⟨rfl, fun i hi => ?_⟩), by decide⟩
        · rw [ps χ hχ, tc]
          unfold f_9011_29 f_9011_51
          simp only [(sb_le0 hb).mpr h0, gd_tt, oA_arr, px_obj_s, Option.bind_some, Option.map_some, Option.bind_none, eq_self, true_or, or_true, px_av_0, px_av_1, px_av_2, px_av_10, px_av_11, bn, wi_1, wi_2, wl_1, wl_21, wl_22, wr_1, wr_21, wr_22, Sum.elim_inl, Sum.elim_inr, ↓reduceIte, Nat.reduceLT, Nat.reduceLeDiff, not_false_eq_true, not_true_eq_false, Nat.reduceEqDiff, Nat.reduceAdd, reduceCtorEq, and_true, true_and, and_false, false_and, false_or, or_false]
        · have := (SG_v i hi).2.2
          omega
      · have a1 : ¬ sb (b s) ≤ nI 0 := mt (sb_le0 hb).mp h0
        have cv : ∀ c, c < 128 → ((nI c).toUInt32 % 65536).toInt32 = nI c := by decide
        rw [sb_lo _ (show b s < 128 by omega)] at a1 ps
        by_cases hs : ∃ i, i < 12 ∧ b s = SGf i
        · obtain ⟨i, hi, ei⟩ := hs
          refine ⟨s + 1, 20 + i, 0, e1, fun χ hχ => ?_, mk _ (Or.inl ⟨i, hi, ei, rfl⟩), by omega⟩
          obtain ⟨r, y1, y2⟩ := k_idx (σ := χ) (c := b s) (by omega) (by omega)
          have y3 : ¬ r < nI 0 := by
            rcases y2 with ⟨-, h⟩ | ⟨h, -⟩
            · exact absurd ei (h i hi)
            · exact h
          rw [ps χ hχ, tcd_sg, ← ei]
          unfold f_9011_29
          simp only [a1, la_1002, cv _ (show b s < 128 by omega), y1, y3, nI_add, gd_tt, oA_arr, px_obj_s, Option.bind_some, Option.map_some, Option.bind_none, eq_self, true_or, or_true, px_av_0, px_av_1, px_av_2, px_av_10, px_av_11, bn, wi_1, wi_2, wl_1, wl_21, wl_22, wr_1, wr_21, wr_22, Sum.elim_inl, Sum.elim_inr, ↓reduceIte, Nat.reduceLT, Nat.reduceLeDiff, not_false_eq_true, not_true_eq_false, Nat.reduceEqDiff, Nat.reduceAdd, reduceCtorEq, and_true, true_and, and_false, false_and, false_or, or_false]
        · refine ⟨s + 1, 18, 0, e1, fun χ hχ => ?_, mk 18 (Or.inr ⟨rfl, fun i hi h => hs ⟨i, hi, h⟩⟩), by decide⟩
          obtain ⟨r, y1, y2⟩ := k_idx (σ := χ) (c := b s) (by omega) (by omega)
          have y3 : r < nI 0 := by
            rcases y2 with ⟨h, -⟩ | ⟨-, h⟩
            · exact h
            · exact absurd h hs
          rw [ps χ hχ, tc]
          unfold f_9011_29 f_9011_51
          simp only [a1, la_1002, cv _ (show b s < 128 by omega), y1, y3, gd_tt, oA_arr, px_obj_s, Option.bind_some, Option.map_some, Option.bind_none, eq_self, true_or, or_true, px_av_0, px_av_1, px_av_2, px_av_10, px_av_11, bn, wi_1, wi_2, wl_1, wl_21, wl_22, wr_1, wr_21, wr_22, Sum.elim_inl, Sum.elim_inr, ↓reduceIte, Nat.reduceLT, Nat.reduceLeDiff, not_false_eq_true, not_true_eq_false, Nat.reduceEqDiff, Nat.reduceAdd, reduceCtorEq, and_true, true_and, and_false, false_and, false_or, or_false]
/-- the tokens in their order: where they are, what they are -/
def chn (b : Nat → Nat) (e K : Nat) (pl bh κ v : Nat → Nat) : Prop := bh 0 = 0 ∧ K ≤ e ∧ (∀ j, j ≤ K → tkn b e (bh j) (pl j) (bh (j + 1)) (κ j) (v j)) ∧ (∀ j, j < K → κ j ≠ 17) ∧ κ K = 17
def TK (l _ : Nat) : Bool := l == 152 || l == 153
theorem TK2 (j : Nat) : TK 152 j = true := rfl
theorem TK3 (j : Nat) : TK 153 j = true := rfl
theorem k_find (ht : tpc σ b e) : ∃ υ K pl bh κ v, f_9005 tT σ 150 = some υ ∧ fr TK σ υ ∧ chn b e K pl bh κ v ∧ ∀ j, j ≤ K → υ.1 153 j = nI (pl j) ∧ υ.1 152 j = nI (tcd (κ j) (v j)) := by
  have he := ht.2.2.1
  suffices key : ∃ υ, f_9005 tT σ 150 = some υ ∧ ∃ K pl bh κ v, fr TK σ υ ∧ chn b e K pl bh κ v ∧ ∀ j, j ≤ K → υ.1 153 j = nI (pl j) ∧ υ.1 152 j = nI (tcd (κ j) (v j)) by
    obtain ⟨υ, y1, K, pl, bh, κ, v, y2⟩ := key
    exact ⟨υ, K, pl, bh, κ, v, y1, y2⟩
  unfold f_9005 f_9005_6
  refine lp_rel (F := fun x : Int32 × Int32 × Int32 × px_M => F_9005_6 tT 150 x.1 x.2.1 x.2.2.1 x.2.2.2) (fun i x => ∃ k a ρ pl bh κ v, x = (nI k, nI a, nI i, ρ) ∧ fr TK σ ρ ∧ i ≤ a ∧ a ≤ e ∧ k ≤ bh k ∧ bh k ≤ a ∧ bh 0 = 0 ∧ (∀ h, bh k ≤ h → h < a → blk b h) ∧ ∀ j, j < k → tkn b e (bh j) (pl j) (bh (j + 1)) (κ j) (v j) ∧ κ j ≠ 17 ∧ ρ.1 153 j = nI (pl j) ∧ ρ.1 152 j = nI (tcd (κ j) (v j))) _ e (fun i x hi hI => ?_) 0 (nI 0, nI 0, nI 0, σ) (Nat.zero_le _) ⟨0, 0, σ, fun _ => 0, fun _ => 0, fun _ => 0, fun _ => 0, rfl, fr_rf _ _, Nat.le_refl _, Nat.zero_le _, Nat.le_refl _, Nat.le_refl _, rfl, fun h h1 h2 => by omega, fun j hj => by omega⟩
  obtain ⟨k, a, ρ, pl, bh, κ, v, rfl, g1, g2, g3, g4, g5, g6, g7, g8⟩ := hI
  have htρ : tpc ρ b e := tpc_fr g1 rfl (fun _ => rfl) ht
  have hR := htρ.1
  have h7 := htρ.2.1
  have ck : vp_in (nI k) 901 := (vp_in_eq (by omega)).mpr (by omega)
  have ck2 : (nI k).toNatClampNeg = k := nI_clamp (by omega)
  by_cases hae : a = e
  · right
    have a2 : nI e ≤ nI a := by rw [nI_leI (by omega) (by omega)]; omega
    refine ⟨px_wi (px_wi ρ 153 k (nI e)) 152 k (nI 3005), ?_, k, upm pl k e, upm bh (k + 1) e, upm κ k 17, upm v k 0, fr_wi (fr_wi g1 _ (TK3 k)) _ (TK2 k), ⟨?_, by omega, fun j hj => ?_, fun j hj => ?_, upm_s _ _ _⟩, fun j hj => ?_⟩
    · dsimp only
      unfold F_9005_6
      by_cases h9 : nI 900 ≤ nI i
      · simp only [h9, la_150, la_152, la_153, rc_150_5 hR, rc_150_6 hR, ck, ck2, h7, gd_tt, oA_arr, px_obj_s, Option.bind_some, Option.map_some, Option.bind_none, eq_self, true_or, or_true, px_av_0, px_av_1, px_av_2, px_av_10, px_av_11, bn, wi_1, wi_2, wl_1, wl_21, wl_22, wr_1, wr_21, wr_22, Sum.elim_inl, Sum.elim_inr, ↓reduceIte, Nat.reduceLT, Nat.reduceLeDiff, not_false_eq_true, not_true_eq_false, Nat.reduceEqDiff, Nat.reduceAdd, reduceCtorEq, and_true, true_and, and_false, false_and, false_or, or_false]
      · simp only [h9, a2, la_150, la_152, la_153, rc_150_5 hR, rc_150_6 hR, ck, ck2, h7, gd_tt, oA_arr, px_obj_s, Option.bind_some, Option.map_some, Option.bind_none, eq_self, true_or, or_true, px_av_0, px_av_1, px_av_2, px_av_10, px_av_11, bn, wi_1, wi_2, wl_1, wl_21, wl_22, wr_1, wr_21, wr_22, Sum.elim_inl, Sum.elim_inr, ↓reduceIte, Nat.reduceLT, Nat.reduceLeDiff, not_false_eq_true, not_true_eq_false, Nat.reduceEqDiff, Nat.reduceAdd, reduceCtorEq, and_true, true_and, and_false, false_and, false_or, or_false]
    · rw [upm_n (by omega)]; exact g6
    · by_cases hjk : j = k
      · subst hjk
        rw [upm_n (show j ≠ j + 1 by omega), upm_s, upm_s, upm_s, upm_s]
        exact ⟨⟨by omega, Nat.le_refl _, fun i h1 h2 => g7 i h1 (by omega)⟩, Or.inl ⟨rfl, rfl, rfl, rfl⟩⟩
      · rw [upm_n (show j ≠ k + 1 by omega), upm_n (show j + 1 ≠ k + 1 by omega), upm_n hjk, upm_n hjk, upm_n hjk]
        exact (g8 j (by omega)).1
    · rw [upm_n (by omega)]
      exact (g8 j hj).2.1
    · by_cases hjk : j = k
      · subst hjk
        rw [upm_s, upm_s, upm_s]
        exact ⟨by rw [wi_n (by decide)]; exact wi_s _ _ _ _, by rw [wi_s]; rfl⟩
      · rw [upm_n hjk, upm_n hjk, upm_n hjk]
        obtain ⟨-, -, z1, z2⟩ := g8 j (by omega)
        refine ⟨?_, ?_⟩
        · rw [wi_n (by decide)]
          show px_up ρ.1 153 k _ 153 j = _
          rw [up_s, if_neg hjk]; exact z1
        · show px_up (px_wi ρ 153 k (nI e)).1 152 k (nI 3005) 152 j = _
          rw [up_s, if_neg hjk, wi_n (by decide)]; exact z2
  · left
    have a1 : ¬ nI 900 ≤ nI i := by rw [nI_leI (by omega) (by omega)]; omega
    have a2 : ¬ nI e ≤ nI a := by rw [nI_leI (by omega) (by omega)]; omega
    have kb := k_blank htρ (p := a) (by omega)
    by_cases hbl : blk b a
    · rw [if_pos hbl] at kb
      refine ⟨(nI k, nI (a + 1), nI (i + 1), ρ), ?_, by omega, k, a + 1, ρ, pl, bh, κ, v, rfl, g1, by omega, by omega, g4, by omega, g6, fun h h1 h2 => ?_, g8⟩
      · dsimp only
        unfold F_9005_6 f_9005_68
        simp only [a1, a2, la_150, h7, kb, n10, nI_add, gd_tt, oA_arr, px_obj_s, Option.bind_some, Option.map_some, Option.bind_none, eq_self, true_or, or_true, px_av_0, px_av_1, px_av_2, px_av_10, px_av_11, bn, wi_1, wi_2, wl_1, wl_21, wl_22, wr_1, wr_21, wr_22, Sum.elim_inl, Sum.elim_inr, ↓reduceIte, Nat.reduceLT, Nat.reduceLeDiff, not_false_eq_true, not_true_eq_false, Nat.reduceEqDiff, Nat.reduceAdd, reduceCtorEq, and_true, true_and, and_false, false_and, false_or, or_false]
      · by_cases hh : h = a
        · subst hh; exact hbl
        · exact g7 h h1 (by omega)
    · rw [if_neg hbl] at kb
      obtain ⟨q, κ', v', y1, y2, y3, y4⟩ := k_token (p := bh k) htρ (by omega) (show a < e by omega) g7 hbl
      obtain ⟨l1, l2, l3, l4, l5, l6, l7, l8⟩ := tkn_lt y3
      have l9 := l4 y4
      obtain ⟨ω, hω⟩ : ∃ ω, px_wi ρ 153 k (nI a) = ω := ⟨_, rfl⟩
      have w1 : fr TK ρ ω := by rw [← hω]; exact fr_wi (fr_rf _ _) _ (TK3 k)
      have t2 := y2 ω (tpc_fr w1 rfl (fun _ => rfl) htρ)
      have hRω := cR_fr w1 hR
      refine ⟨(nI (k + 1), nI q, nI (i + 1), px_wi ω 152 k (nI (tcd κ' v'))), ?_, by omega, k + 1, q, _, upm pl k a, upm bh (k + 1) q, upm κ k κ', upm v k v', rfl, fr_wi (fr_tr g1 w1) _ (TK2 k), by omega, by omega, ?_, ?_, ?_, fun h h1 h2 => ?_, fun j hj => ?_⟩
      · dsimp only
        unfold F_9005_6 f_9005_42 f_9005_68
        simp only [a1, a2, la_150, la_152, la_153, rc_150_5 hR, rc_150_6 hR, rc_150_5 hRω, h7, kb, y1, ck, ck2, hω, t2, nI_add, gd_tt, oA_arr, px_obj_s, Option.bind_some, Option.map_some, Option.bind_none, eq_self, true_or, or_true, px_av_0, px_av_1, px_av_2, px_av_10, px_av_11, bn, wi_1, wi_2, wl_1, wl_21, wl_22, wr_1, wr_21, wr_22, Sum.elim_inl, Sum.elim_inr, ↓reduceIte, Nat.reduceLT, Nat.reduceLeDiff, not_false_eq_true, not_true_eq_false, Nat.reduceEqDiff, Nat.reduceAdd, reduceCtorEq, and_true, true_and, and_false, false_and, false_or, or_false]
      · rw [upm_s]; omega
      · rw [upm_s]; omega
      · rw [upm_n (by omega)]; exact g6
      · rw [upm_s] at h1; omega
      · by_cases hjk : j = k
        · subst hjk
          rw [upm_n (show j ≠ j + 1 by omega), upm_s, upm_s, upm_s, upm_s]
          refine ⟨y3, y4, ?_, wi_s _ _ _ _⟩
          rw [wi_n (by decide), ← hω]; exact wi_s _ _ _ _
        · rw [upm_n (show j ≠ k + 1 by omega), upm_n (show j + 1 ≠ k + 1 by omega), upm_n hjk, upm_n hjk, upm_n hjk]
          obtain ⟨x1, x2, z1, z2⟩ := g8 j (by omega)
          refine ⟨x1, x2, ?_, ?_⟩
          · rw [wi_n (by decide), ← hω]
            show px_up ρ.1 153 k _ 153 j = _
            rw [up_s, if_neg hjk]; exact z1
          · show px_up ω.1 152 k _ 152 j = _
            rw [up_s, if_neg hjk, ← hω]
            show (px_wi ρ 153 k (nI a)).1 152 j = _
            rw [wi_n (by decide)]; exact z2
end
