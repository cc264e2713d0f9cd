/-! fault, count, images, alike -/
section
variable {σ τ σ' τ' : px_M} {Q P : Nat → Nat → Bool}
theorem ST_thr (h : ST σ τ) : ST σ (px_wi τ 0 0 (nI 0)) := ST_ask h (fr_rf _ _) fk_thr
theorem SJ_thr (h : ST σ τ) : SJ σ τ σ (px_wi τ 0 0 (nI 0)) := SJ_ask h (fr_rf _ _) fk_thr
theorem SJ_go {ζ : px_M} (h1 : SJ σ τ σ ζ) (h2 : SJ σ ζ σ' τ') : SJ σ τ σ' τ' := ⟨h2.1, h2.2.1, hi_tr h1.2.2 h2.2.2⟩
theorem s_fault (h : ST σ τ) (x : Int32) : stPP σ τ (f_12004 tT σ 100 x) (f_29 tT τ 0 x) := by
  have hT := ST_thr h
  have hJ := SJ_thr h
  have hR := h.1.1
  obtain ⟨g1, g2⟩ := hT.2.2.2.2.2.1
  unfold f_12004 f_29
  generalize px_wi τ 0 0 (nI 0) = ζ at hT hJ g1 g2 ⊢
  by_cases x0 : x = nI 0
  · exact ⟨_, ζ, by simp only [x0, la_100, la_150, rc_100_4 hR, gd_tt, oA_arr, px_obj_s, Option.bind_some, Option.map_some, Option.bind_none, eq_self, true_or, or_true, px_av_0, px_av_1, px_av_2, px_av_10, px_av_11, bn, wi_1, wi_2, wl_1, wl_21, wl_22, wr_1, wr_21, wr_22, Sum.elim_inl, Sum.elim_inr, ↓reduceIte, Nat.reduceLT, Nat.reduceLeDiff, not_false_eq_true, not_true_eq_false, Nat.reduceEqDiff, Nat.reduceAdd, reduceCtorEq, and_true, true_and, and_false, false_and, false_or, or_false]; rfl, by simp only [x0, la_0, ← g1, gd_tt, oA_arr, px_obj_s, Option.bind_some, Option.map_some, Option.bind_none, eq_self, true_or, or_true, px_av_0, px_av_1, px_av_2, px_av_10, px_av_11, bn, wi_1, wi_2, wl_1, wl_21, wl_22, wr_1, wr_21, wr_22, Sum.elim_inl, Sum.elim_inr, ↓reduceIte, Nat.reduceLT, Nat.reduceLeDiff, not_false_eq_true, not_true_eq_false, Nat.reduceEqDiff, Nat.reduceAdd, reduceCtorEq, and_true, true_and, and_false, false_and, false_or, or_false], hJ⟩
  · by_cases x1 : x = nI 1
    · have n1 : ¬ nI 1 = nI 0 := by decide
      exact ⟨_, ζ, by simp only [x1, n1, la_100, la_150, rc_100_4 hR, gd_tt, oA_arr, px_obj_s, Option.bind_some, Option.map_some, Option.bind_none, eq_self, true_or, or_true, px_av_0, px_av_1, px_av_2, px_av_10, px_av_11, bn, wi_1, wi_2, wl_1, wl_21, wl_22, wr_1, wr_21, wr_22, Sum.elim_inl, Sum.elim_inr, ↓reduceIte, Nat.reduceLT, Nat.reduceLeDiff, not_false_eq_true, not_true_eq_false, Nat.reduceEqDiff, Nat.reduceAdd, reduceCtorEq, and_true, true_and, and_false, false_and, false_or, or_false]; rfl, by simp only [x1, n1, la_0, ← g2, gd_tt, oA_arr, px_obj_s, Option.bind_some, Option.map_some, Option.bind_none, eq_self, true_or, or_true, px_av_0, px_av_1, px_av_2, px_av_10, px_av_11, bn, wi_1, wi_2, wl_1, wl_21, wl_22, wr_1, wr_21, wr_22, Sum.elim_inl, Sum.elim_inr, ↓reduceIte, Nat.reduceLT, Nat.reduceLeDiff, not_false_eq_true, not_true_eq_false, Nat.reduceEqDiff, Nat.reduceAdd, reduceCtorEq, and_true, true_and, and_false, false_and, false_or, or_false], hJ⟩
    · exact ⟨_, ζ, by simp only [x0, x1, gd_tt, oA_arr, px_obj_s, Option.bind_some, Option.map_some, Option.bind_none, eq_self, true_or, or_true, px_av_0, px_av_1, px_av_2, px_av_10, px_av_11, bn, wi_1, wi_2, wl_1, wl_21, wl_22, wr_1, wr_21, wr_22, Sum.elim_inl, Sum.elim_inr, ↓reduceIte, Nat.reduceLT, Nat.reduceLeDiff, not_false_eq_true, not_true_eq_false, Nat.reduceEqDiff, Nat.reduceAdd, reduceCtorEq, and_true, true_and, and_false, false_and, false_or, or_false]; rfl, by simp only [x0, x1, la_0, gd_tt, oA_arr, px_obj_s, Option.bind_some, Option.map_some, Option.bind_none, eq_self, true_or, or_true, px_av_0, px_av_1, px_av_2, px_av_10, px_av_11, bn, wi_1, wi_2, wl_1, wl_21, wl_22, wr_1, wr_21, wr_22, Sum.elim_inl, Sum.elim_inr, ↓reduceIte, Nat.reduceLT, Nat.reduceLeDiff, not_false_eq_true, not_true_eq_false, Nat.reduceEqDiff, Nat.reduceAdd, reduceCtorEq, and_true, true_and, and_false, false_and, false_or, or_false], hJ⟩
theorem s_count (h : ST σ τ) (x : Int32) : stPP σ τ (f_12054 tT σ 100 x) (f_134 tT τ 0 x) := by
  have hT := ST_thr h
  have hJ := SJ_thr h
  have hR := h.1.1
  obtain ⟨b, t, t1, t2, t3, -⟩ := hT.2.2.2.2.1
  obtain ⟨n, B, nr, S, C, d, G, ln, ⟨c1, c2, c3, c4, c5, c6⟩, ⟨m1, m2, m3, m4, m5, m6⟩⟩ := id hT.2.1
  have hRm := hT.1.2
  have k0 : vp_in (nI 0) 3216 := (vp_in_eq (by omega)).mpr (by omega)
  have k02 : (nI 0).toNatClampNeg = 0 := nI_clamp (by omega)
  have k1 : vp_in (nI 1) 3216 := (vp_in_eq (by omega)).mpr (by omega)
  have k12 : (nI 1).toNatClampNeg = 1 := nI_clamp (by omega)
  have k13 : vp_in (nI 13) 3216 := (vp_in_eq (by omega)).mpr (by omega)
  have k132 : (nI 13).toNatClampNeg = 13 := nI_clamp (by omega)
  have k158 : vp_in (nI 158) 3216 := (vp_in_eq (by omega)).mpr (by omega)
  have k1582 : (nI 158).toNatClampNeg = 158 := nI_clamp (by omega)
  have hmo : mo (px_wi τ 0 0 (nI 0)) n B := ⟨hRm, m1, by rw [Nat.zero_add] at m2; exact m2, fun a ha => by have := m3 a ha; rw [Nat.zero_add] at this; exact this⟩
  have e1 := c1.2.2.2.2.1
  have e2 := c_doors c1
  have e3 := c2.2.2.1
  have e4 := c4.2.1
  have e5 := c_threes c1
  have e6 := c_parts c1
  have f1 : (px_wi τ 0 0 (nI 0)).1 1 1 = nI n := hmo.2.2.1
  have f2 := e_doorMany hmo
  have f3 : (px_wi τ 0 0 (nI 0)).1 1 158 = nI nr := by have := m4.1; rw [Nat.zero_add] at this; exact this
  have f4 : (px_wi τ 0 0 (nI 0)).1 1 13 = nI d := by have := m5.2.1; rw [Nat.zero_add] at this; exact this
  have f5 := e_threeMany hmo
  rw [tm_tr m1] at f5
  obtain ⟨bb, f6, υ, rfl, f7⟩ := e_parts hmo
  have hJ5 : SJ σ τ σ υ := SJ_go hJ <| SJ_ask hT (fr_rf _ _) (fk_SM (fr_mono f7 (fun l j q => by
    simp only [on, beq_eq_false_iff_ne]
    intro z; subst z; simp [SM] at q)))
  unfold f_12054 f_134
  generalize px_wi τ 0 0 (nI 0) = ζ at hT hJ t3 m6 hRm f1 f2 f3 f4 f5 f6 ⊢
  have nn : ∀ a b : Nat, a < 8 → b < 8 → a ≠ b → ¬ nI a = nI b := fun a b h1 h2 h3 => by rw [nI_eq (by omega) (by omega)]; exact h3
  by_cases x0 : x = nI 0
  · exact ⟨_, ζ, by simp only [x0, la_100, la_110, la_111, rc_100_0 hR, rc_110_0 hR, e1, gd_tt, oA_arr, px_obj_s, Option.bind_some, Option.map_some, Option.bind_none, eq_self, true_or, or_true, px_av_0, px_av_1, px_av_2, px_av_10, px_av_11, bn, wi_1, wi_2, wl_1, wl_21, wl_22, wr_1, wr_21, wr_22, Sum.elim_inl, Sum.elim_inr, ↓reduceIte, Nat.reduceLT, Nat.reduceLeDiff, not_false_eq_true, not_true_eq_false, Nat.reduceEqDiff, Nat.reduceAdd, reduceCtorEq, and_true, true_and, and_false, false_and, false_or, or_false]; rfl, by simp only [x0, la_0, la_1, rm_0_1 hRm, k1, k12, f1, gd_tt, oA_arr, px_obj_s, Option.bind_some, Option.map_some, Option.bind_none, eq_self, true_or, or_true, px_av_0, px_av_1, px_av_2, px_av_10, px_av_11, bn, wi_1, wi_2, wl_1, wl_21, wl_22, wr_1, wr_21, wr_22, Sum.elim_inl, Sum.elim_inr, ↓reduceIte, Nat.reduceLT, Nat.reduceLeDiff, not_false_eq_true, not_true_eq_false, Nat.reduceEqDiff, Nat.reduceAdd, reduceCtorEq, and_true, true_and, and_false, false_and, false_or, or_false], hJ⟩
  · by_cases x1 : x = nI 1
    · exact ⟨_, ζ, by simp only [x1, nn 1 0 (by omega) (by omega) (by omega), la_100, la_110, la_111, rc_100_0 hR, rc_110_0 hR, e2, gd_tt, oA_arr, px_obj_s, Option.bind_some, Option.map_some, Option.bind_none, eq_self, true_or, or_true, px_av_0, px_av_1, px_av_2, px_av_10, px_av_11, bn, wi_1, wi_2, wl_1, wl_21, wl_22, wr_1, wr_21, wr_22, Sum.elim_inl, Sum.elim_inr, ↓reduceIte, Nat.reduceLT, Nat.reduceLeDiff, not_false_eq_true, not_true_eq_false, Nat.reduceEqDiff, Nat.reduceAdd, reduceCtorEq, and_true, true_and, and_false, false_and, false_or, or_false]; rfl, by simp only [x1, nn 1 0 (by omega) (by omega) (by omega), la_0, f2, gd_tt, oA_arr, px_obj_s, Option.bind_some, Option.map_some, Option.bind_none, eq_self, true_or, or_true, px_av_0, px_av_1, px_av_2, px_av_10, px_av_11, bn, wi_1, wi_2, wl_1, wl_21, wl_22, wr_1, wr_21, wr_22, Sum.elim_inl, Sum.elim_inr, ↓reduceIte, Nat.reduceLT, Nat.reduceLeDiff, not_false_eq_true, not_true_eq_false, Nat.reduceEqDiff, Nat.reduceAdd, reduceCtorEq, and_true, true_and, and_false, false_and, false_or, or_false], hJ⟩
    · by_cases x2 : x = nI 2
      · exact ⟨_, ζ, by simp only [x2, nn 2 0 (by omega) (by omega) (by omega), nn 2 1 (by omega) (by omega) (by omega), la_100, la_110, la_113, rc_100_0 hR, rc_110_1 hR, e3, gd_tt, oA_arr, px_obj_s, Option.bind_some, Option.map_some, Option.bind_none, eq_self, true_or, or_true, px_av_0, px_av_1, px_av_2, px_av_10, px_av_11, bn, wi_1, wi_2, wl_1, wl_21, wl_22, wr_1, wr_21, wr_22, Sum.elim_inl, Sum.elim_inr, ↓reduceIte, Nat.reduceLT, Nat.reduceLeDiff, not_false_eq_true, not_true_eq_false, Nat.reduceEqDiff, Nat.reduceAdd, reduceCtorEq, and_true, true_and, and_false, false_and, false_or, or_false]; rfl, by simp only [x2, nn 2 0 (by omega) (by omega) (by omega), nn 2 1 (by omega) (by omega) (by omega), la_0, la_1, rm_0_1 hRm, k158, k1582, f3, gd_tt, oA_arr, px_obj_s, Option.bind_some, Option.map_some, Option.bind_none, eq_self, true_or, or_true, px_av_0, px_av_1, px_av_2, px_av_10, px_av_11, bn, wi_1, wi_2, wl_1, wl_21, wl_22, wr_1, wr_21, wr_22, Sum.elim_inl, Sum.elim_inr, ↓reduceIte, Nat.reduceLT, Nat.reduceLeDiff, not_false_eq_true, not_true_eq_false, Nat.reduceEqDiff, Nat.reduceAdd, reduceCtorEq, and_true, true_and, and_false, false_and, false_or, or_false], hJ⟩
      · by_cases x3 : x = nI 3
        · exact ⟨_, ζ, by simp only [x3, nn 3 0 (by omega) (by omega) (by omega), nn 3 1 (by omega) (by omega) (by omega), nn 3 2 (by omega) (by omega) (by omega), la_100, la_110, rc_100_0 hR, e4, gd_tt, oA_arr, px_obj_s, Option.bind_some, Option.map_some, Option.bind_none, eq_self, true_or, or_true, px_av_0, px_av_1, px_av_2, px_av_10, px_av_11, bn, wi_1, wi_2, wl_1, wl_21, wl_22, wr_1, wr_21, wr_22, Sum.elim_inl, Sum.elim_inr, ↓reduceIte, Nat.reduceLT, Nat.reduceLeDiff, not_false_eq_true, not_true_eq_false, Nat.reduceEqDiff, Nat.reduceAdd, reduceCtorEq, and_true, true_and, and_false, false_and, false_or, or_false]; rfl, by simp only [x3, nn 3 0 (by omega) (by omega) (by omega), nn 3 1 (by omega) (by omega) (by omega), nn 3 2 (by omega) (by omega) (by omega), la_0, la_1, rm_0_1 hRm, k13, k132, f4, gd_tt, oA_arr, px_obj_s, Option.bind_some, Option.map_some, Option.bind_none, eq_self, true_or, or_true, px_av_0, px_av_1, px_av_2, px_av_10, px_av_11, bn, wi_1, wi_2, wl_1, wl_21, wl_22, wr_1, wr_21, wr_22, Sum.elim_inl, Sum.elim_inr, ↓reduceIte, Nat.reduceLT, Nat.reduceLeDiff, not_false_eq_true, not_true_eq_false, Nat.reduceEqDiff, Nat.reduceAdd, reduceCtorEq, and_true, true_and, and_false, false_and, false_or, or_false], hJ⟩
        · by_cases x4 : x = nI 4
          · exact ⟨_, ζ, by simp only [x4, nn 4 0 (by omega) (by omega) (by omega), nn 4 1 (by omega) (by omega) (by omega), nn 4 2 (by omega) (by omega) (by omega), nn 4 3 (by omega) (by omega) (by omega), la_100, la_110, la_111, rc_100_0 hR, rc_110_0 hR, e5, gd_tt, oA_arr, px_obj_s, Option.bind_some, Option.map_some, Option.bind_none, eq_self, true_or, or_true, px_av_0, px_av_1, px_av_2, px_av_10, px_av_11, bn, wi_1, wi_2, wl_1, wl_21, wl_22, wr_1, wr_21, wr_22, Sum.elim_inl, Sum.elim_inr, ↓reduceIte, Nat.reduceLT, Nat.reduceLeDiff, not_false_eq_true, not_true_eq_false, Nat.reduceEqDiff, Nat.reduceAdd, reduceCtorEq, and_true, true_and, and_false, false_and, false_or, or_false]; rfl, by simp only [x4, nn 4 0 (by omega) (by omega) (by omega), nn 4 1 (by omega) (by omega) (by omega), nn 4 2 (by omega) (by omega) (by omega), nn 4 3 (by omega) (by omega) (by omega), la_0, f5, gd_tt, oA_arr, px_obj_s, Option.bind_some, Option.map_some, Option.bind_none, eq_self, true_or, or_true, px_av_0, px_av_1, px_av_2, px_av_10, px_av_11, bn, wi_1, wi_2, wl_1, wl_21, wl_22, wr_1, wr_21, wr_22, Sum.elim_inl, Sum.elim_inr, ↓reduceIte, Nat.reduceLT, Nat.reduceLeDiff, not_false_eq_true, not_true_eq_false, Nat.reduceEqDiff, Nat.reduceAdd, reduceCtorEq, and_true, true_and, and_false, false_and, false_or, or_false], hJ⟩
          · by_cases x5 : x = nI 5
            · exact ⟨_, υ, by simp only [x5, nn 5 0 (by omega) (by omega) (by omega), nn 5 1 (by omega) (by omega) (by omega), nn 5 2 (by omega) (by omega) (by omega), nn 5 3 (by omega) (by omega) (by omega), nn 5 4 (by omega) (by omega) (by omega), la_100, la_110, la_111, rc_100_0 hR, rc_110_0 hR, e6, gd_tt, oA_arr, px_obj_s, Option.bind_some, Option.map_some, Option.bind_none, eq_self, true_or, or_true, px_av_0, px_av_1, px_av_2, px_av_10, px_av_11, bn, wi_1, wi_2, wl_1, wl_21, wl_22, wr_1, wr_21, wr_22, Sum.elim_inl, Sum.elim_inr, ↓reduceIte, Nat.reduceLT, Nat.reduceLeDiff, not_false_eq_true, not_true_eq_false, Nat.reduceEqDiff, Nat.reduceAdd, reduceCtorEq, and_true, true_and, and_false, false_and, false_or, or_false]; rfl, by simp only [x5, nn 5 0 (by omega) (by omega) (by omega), nn 5 1 (by omega) (by omega) (by omega), nn 5 2 (by omega) (by omega) (by omega), nn 5 3 (by omega) (by omega) (by omega), nn 5 4 (by omega) (by omega) (by omega), la_0, f6, gd_tt, oA_arr, px_obj_s, Option.bind_some, Option.map_some, Option.bind_none, eq_self, true_or, or_true, px_av_0, px_av_1, px_av_2, px_av_10, px_av_11, bn, wi_1, wi_2, wl_1, wl_21, wl_22, wr_1, wr_21, wr_22, Sum.elim_inl, Sum.elim_inr, ↓reduceIte, Nat.reduceLT, Nat.reduceLeDiff, not_false_eq_true, not_true_eq_false, Nat.reduceEqDiff, Nat.reduceAdd, reduceCtorEq, and_true, true_and, and_false, false_and, false_or, or_false], hJ5⟩
            · by_cases x6 : x = nI 6
              · exact ⟨_, ζ, by simp only [x6, nn 6 0 (by omega) (by omega) (by omega), nn 6 1 (by omega) (by omega) (by omega), nn 6 2 (by omega) (by omega) (by omega), nn 6 3 (by omega) (by omega) (by omega), nn 6 4 (by omega) (by omega) (by omega), nn 6 5 (by omega) (by omega) (by omega), la_100, la_150, rc_100_4 hR, t2, gd_tt, oA_arr, px_obj_s, Option.bind_some, Option.map_some, Option.bind_none, eq_self, true_or, or_true, px_av_0, px_av_1, px_av_2, px_av_10, px_av_11, bn, wi_1, wi_2, wl_1, wl_21, wl_22, wr_1, wr_21, wr_22, Sum.elim_inl, Sum.elim_inr, ↓reduceIte, Nat.reduceLT, Nat.reduceLeDiff, not_false_eq_true, not_true_eq_false, Nat.reduceEqDiff, Nat.reduceAdd, reduceCtorEq, and_true, true_and, and_false, false_and, false_or, or_false]; rfl, by simp only [x6, nn 6 0 (by omega) (by omega) (by omega), nn 6 1 (by omega) (by omega) (by omega), nn 6 2 (by omega) (by omega) (by omega), nn 6 3 (by omega) (by omega) (by omega), nn 6 4 (by omega) (by omega) (by omega), nn 6 5 (by omega) (by omega) (by omega), la_0, t3, gd_tt, oA_arr, px_obj_s, Option.bind_some, Option.map_some, Option.bind_none, eq_self, true_or, or_true, px_av_0, px_av_1, px_av_2, px_av_10, px_av_11, bn, wi_1, wi_2, wl_1, wl_21, wl_22, wr_1, wr_21, wr_22, Sum.elim_inl, Sum.elim_inr, ↓reduceIte, Nat.reduceLT, Nat.reduceLeDiff, not_false_eq_true, not_true_eq_false, Nat.reduceEqDiff, Nat.reduceAdd, reduceCtorEq, and_true, true_and, and_false, false_and, false_or, or_false], hJ⟩
              · by_cases x7 : x = nI 7
                · exact ⟨_, ζ, by simp only [x7, nn 7 0 (by omega) (by omega) (by omega), nn 7 1 (by omega) (by omega) (by omega), nn 7 2 (by omega) (by omega) (by omega), nn 7 3 (by omega) (by omega) (by omega), nn 7 4 (by omega) (by omega) (by omega), nn 7 5 (by omega) (by omega) (by omega), nn 7 6 (by omega) (by omega) (by omega), la_100, la_110, rc_100_0 hR, c6, gd_tt, oA_arr, px_obj_s, Option.bind_some, Option.map_some, Option.bind_none, eq_self, true_or, or_true, px_av_0, px_av_1, px_av_2, px_av_10, px_av_11, bn, wi_1, wi_2, wl_1, wl_21, wl_22, wr_1, wr_21, wr_22, Sum.elim_inl, Sum.elim_inr, ↓reduceIte, Nat.reduceLT, Nat.reduceLeDiff, not_false_eq_true, not_true_eq_false, Nat.reduceEqDiff, Nat.reduceAdd, reduceCtorEq, and_true, true_and, and_false, false_and, false_or, or_false]; rfl, by simp only [x7, nn 7 0 (by omega) (by omega) (by omega), nn 7 1 (by omega) (by omega) (by omega), nn 7 2 (by omega) (by omega) (by omega), nn 7 3 (by omega) (by omega) (by omega), nn 7 4 (by omega) (by omega) (by omega), nn 7 5 (by omega) (by omega) (by omega), nn 7 6 (by omega) (by omega) (by omega), la_0, la_1, rm_0_1 hRm, k0, k02, m6, gd_tt, oA_arr, px_obj_s, Option.bind_some, Option.map_some, Option.bind_none, eq_self, true_or, or_true, px_av_0, px_av_1, px_av_2, px_av_10, px_av_11, bn, wi_1, wi_2, wl_1, wl_21, wl_22, wr_1, wr_21, wr_22, Sum.elim_inl, Sum.elim_inr, ↓reduceIte, Nat.reduceLT, Nat.reduceLeDiff, not_false_eq_true, not_true_eq_false, Nat.reduceEqDiff, Nat.reduceAdd, reduceCtorEq, and_true, true_and, and_false, false_and, false_or, or_false], hJ⟩
                · exact ⟨_, ζ, by simp only [x0, x1, x2, x3, x4, x5, x6, x7, gd_tt, oA_arr, px_obj_s, Option.bind_some, Option.map_some, Option.bind_none, eq_self, true_or, or_true, px_av_0, px_av_1, px_av_2, px_av_10, px_av_11, bn, wi_1, wi_2, wl_1, wl_21, wl_22, wr_1, wr_21, wr_22, Sum.elim_inl, Sum.elim_inr, ↓reduceIte, Nat.reduceLT, Nat.reduceLeDiff, not_false_eq_true, not_true_eq_false, Nat.reduceEqDiff, Nat.reduceAdd, reduceCtorEq, and_true, true_and, and_false, false_and, false_or, or_false]; rfl, by simp only [x0, x1, x2, x3, x4, x5, x6, x7, la_0, gd_tt, oA_arr, px_obj_s, Option.bind_some, Option.map_some, Option.bind_none, eq_self, true_or, or_true, px_av_0, px_av_1, px_av_2, px_av_10, px_av_11, bn, wi_1, wi_2, wl_1, wl_21, wl_22, wr_1, wr_21, wr_22, Sum.elim_inl, Sum.elim_inr, ↓reduceIte, Nat.reduceLT, Nat.reduceLeDiff, not_false_eq_true, not_true_eq_false, Nat.reduceEqDiff, Nat.reduceAdd, reduceCtorEq, and_true, true_and, and_false, false_and, false_or, or_false], hJ⟩
theorem i_cases (σ : px_M) (x : Int32) : (∃ i, i < 2 ∧ x = nI i ∧ f_12056 tT σ x = some (nI 1) ∧ ∀ ω, f_2 tT ω x.toInt64 (lN 0) (lN 1) = some (nI 1)) ∨ (f_12056 tT σ x = some (nI 0) ∧ ∀ ω, f_2 tT ω x.toInt64 (lN 0) (lN 1) = some (nI 0)) := by
  rcases rg_cases x 0 1 (by omega) with ⟨i, -, hi, rfl⟩ | h
  · refine Or.inl ⟨i, by omega, rfl, ?_, fun ω => ?_⟩
    · have a1 : ¬ nI i < nI 0 := by rw [nI_ltI (by omega) (by omega)]; omega
      have a2 : ¬ nI 2 ≤ nI i := by rw [nI_leI (by omega) (by omega)]; omega
      simp only [f_12056, a1, a2, ↓reduceIte]
    · rw [e_withinN ω (nI i) (lo := 0) (hi := 1) (by omega) (by omega), decide_eq_true (by rw [nI_toInt (by omega)]; omega), mb_t1]
  · refine Or.inr ⟨?_, fun ω => ?_⟩
    · by_cases a1 : x < nI 0
      · simp only [f_12056, a1, ↓reduceIte]
      · have a2 : nI 2 ≤ x := by
          rw [fa_lt, nI_toInt (by omega)] at a1
          rw [fa_le, nI_toInt (by omega)]
          omega
        simp only [f_12056, a1, a2, ↓reduceIte]
    · rw [e_withinN ω x (lo := 0) (hi := 1) (by omega) (by omega), decide_eq_false h, mb_f0]
theorem im_l (hR : cR σ.2.2) {i : Nat} (hi : i < 2) : aL σ (120 + 10 * i) ∧ f_12057 tT σ 100 (nI i) = some (some (120 + 10 * i)) := by
  have n1 : ¬ nI 1 = nI 0 := by decide
  rcases (by omega : i = 0 ∨ i = 1) with rfl | rfl
  · refine ⟨aL_120 hR, ?_⟩
    show f_12057 tT σ 100 (nI 0) = some (some 120)
    unfold f_12057
    simp only [la_100, rc_100_1 hR, gd_tt, oA_arr, px_obj_s, Option.bind_some, Option.map_some, Option.bind_none, eq_self, true_or, or_true, px_av_0, px_av_1, px_av_2, px_av_10, px_av_11, bn, wi_1, wi_2, wl_1, wl_21, wl_22, wr_1, wr_21, wr_22, Sum.elim_inl, Sum.elim_inr, ↓reduceIte, Nat.reduceLT, Nat.reduceLeDiff, not_false_eq_true, not_true_eq_false, Nat.reduceEqDiff, Nat.reduceAdd, reduceCtorEq, and_true, true_and, and_false, false_and, false_or, or_false]
  · refine ⟨aL_130 hR, ?_⟩
    show f_12057 tT σ 100 (nI 1) = some (some 130)
    unfold f_12057
    simp only [n1, la_100, rc_100_2 hR, gd_tt, oA_arr, px_obj_s, Option.bind_some, Option.map_some, Option.bind_none, eq_self, true_or, or_true, px_av_0, px_av_1, px_av_2, px_av_10, px_av_11, bn, wi_1, wi_2, wl_1, wl_21, wl_22, wr_1, wr_21, wr_22, Sum.elim_inl, Sum.elim_inr, ↓reduceIte, Nat.reduceLT, Nat.reduceLeDiff, not_false_eq_true, not_true_eq_false, Nat.reduceEqDiff, Nat.reduceAdd, reduceCtorEq, and_true, true_and, and_false, false_and, false_or, or_false]
theorem imX_k {k : Nat} (f1 : fr Q σ σ') (e1 : σ'.1 102 k = σ.1 102 k) (e2 : τ'.1 2 k = τ.1 2 k) (q : ∀ l j, 120 + 10 * k ≤ l → l ≤ 120 + 10 * k + 7 → Q l j = false) (p : ∀ j, j < 1072 → τ'.1 1 (1072 * (k + 1) + j) = τ.1 1 (1072 * (k + 1) + j)) (h : imX σ τ k) : imX σ' τ' k := by
  rcases h with ⟨h1, h2⟩ | ⟨h1, h2, h3⟩
  · exact Or.inl ⟨by rw [e1]; exact h1, by rw [e2]; exact h2⟩
  · exact Or.inr ⟨by rw [e1]; exact h1, by rw [e2]; exact h2, anX_fr f1 q p h3⟩
theorem ST_im (h : ST σ τ) {k : Nat} (hk : k < 2) : imX σ τ k := by
  rcases (by omega : k = 0 ∨ k = 1) with rfl | rfl
  · exact h.2.2.1.1
  · exact h.2.2.1.2
theorem s_image (h : ST σ τ) (x : Int32) : stII σ τ (f_12052 tT σ 100 x) (f_131 tT τ 0 x) := by
  have hT := ST_thr h
  have hJ := SJ_thr h
  have hR := h.1.1
  have hRm := hT.1.2
  rcases i_cases σ x with ⟨i, hi, rfl, y1, y2⟩ | ⟨y1, y2⟩
  · obtain ⟨hL, hA⟩ := im_l hR hi
    have k1 : vp_in (nI i) 2 := (vp_in_eq (by omega)).mpr (by omega)
    have k2 : (nI i).toNatClampNeg = i := nI_clamp (by omega)
    obtain ⟨n, B, nr, S, C, d, G, ln, a1, a2⟩ := id hT.2.1
    obtain ⟨υ, z1, z2, z3⟩ := c_annalsB (X := 120 + 10 * i) (A := 110) (by omega) (dA_h (by omega)) hL (aL_110 hR) a1
    obtain ⟨bb, u1, ψ, rfl, u2, u3, u4⟩ := e_image131 hRm hi
    have hR2 : cR υ.2.2 := cR_fr z2 hR
    have n1 : ¬ nI 1 = nI 0 := by decide
    have fC : fr (fun l j => anS (120 + 10 * i) l j || (l == 102 && j == i)) σ (px_wi υ 102 i (nI 1)) := fr_wi (fr_mono z2 (fun l j q => by simp only [Bool.or_eq_false_iff] at q; exact q.1)) _ (by simp)
    have qC : ∀ l j, l < 120 + 10 * i ∨ 120 + 10 * i + 7 < l → ¬ (l = 102 ∧ j = i) → (anS (120 + 10 * i) l j || (l == 102 && j == i)) = false := fun l j h1 h2 => by
      rw [anS_f j h1, Bool.false_or, Bool.and_eq_false_iff, beq_eq_false_iff_ne, beq_eq_false_iff_ne]
      omega
    have qM : ∀ l j, ¬ (l = 1 ∧ 1072 * (i + 1) ≤ j ∧ j < 1072 * (i + 1) + 1072) → ¬ (l = 2 ∧ j = i) → (rwS (1072 * (i + 1)) l j || (l == 2 && j == i)) = false := fun l j h1 h2 => by
      simp only [rwS, Bool.or_eq_false_iff, Bool.and_eq_false_iff, beq_eq_false_iff_ne, decide_eq_false_iff_not]
      omega
    refine ⟨nI 0, px_wi υ 102 i (nI 1), ψ, ?_, ?_, ?_⟩
    · unfold f_12052
      simp only [y1, n1, la_100, la_102, rc_100_0 hR, rc_100_3 hR2, k1, k2, hA, hL.1.1, z1, gd_tt, oA_arr, px_obj_s, Option.bind_some, Option.map_some, Option.bind_none, eq_self, true_or, or_true, px_av_0, px_av_1, px_av_2, px_av_10, px_av_11, bn, wi_1, wi_2, wl_1, wl_21, wl_22, wr_1, wr_21, wr_22, Sum.elim_inl, Sum.elim_inr, ↓reduceIte, Nat.reduceLT, Nat.reduceLeDiff, not_false_eq_true, not_true_eq_false, Nat.reduceEqDiff, Nat.reduceAdd, reduceCtorEq, and_true, true_and, and_false, false_and, false_or, or_false]
    · unfold f_131
      generalize px_wi τ 0 0 (nI 0) = ζ at hT hJ hRm u1 ⊢
      simp only [y2, n1, la_0, u1, gd_tt, oA_arr, px_obj_s, Option.bind_some, Option.map_some, Option.bind_none, eq_self, true_or, or_true, px_av_0, px_av_1, px_av_2, px_av_10, px_av_11, bn, wi_1, wi_2, wl_1, wl_21, wl_22, wr_1, wr_21, wr_22, Sum.elim_inl, Sum.elim_inr, ↓reduceIte, Nat.reduceLT, Nat.reduceLeDiff, not_false_eq_true, not_true_eq_false, Nat.reduceEqDiff, Nat.reduceAdd, reduceCtorEq, and_true, true_and, and_false, false_and, false_or, or_false]
    · obtain ⟨-, ha, ⟨i0, i1⟩, hrw, htp, ⟨hf1, hf2⟩, hdr⟩ := id hT
      have him : ∀ k, k < 2 → imX (px_wi υ 102 i (nI 1)) ψ k := fun k hk => by
        by_cases hki : k = i
        · subst hki
          refine Or.inr ⟨wi_s _ _ _ _, u3, n, B, nr, S, C, d, G, ln, ?_, anM_copy u4 a1.2.2.1 a2⟩
          exact anC_fr (Q := fun l j => l == 102) (fr_wi (fr_rf _ _) _ rfl) (fun l j h1 h2 => by simp; omega) z3
        · refine imX_k fC ?_ ?_ (fun l j h1 h2 => qC l j (by omega) (by omega)) (fun j hj => u2.1 _ _ (qM _ _ (by omega) (by omega))) (ST_im hT hk)
          · exact fC.1 _ _ (qC _ _ (by omega) (by omega))
          · exact u2.1 _ _ (qM _ _ (by omega) (by omega))
      refine SJ_go hJ ⟨?_, lo_fr fC (fun l j hl => qC l j (by omega) (by omega)), hi_fr u2 (fun l j hl => qM l j (by omega) (by omega))⟩
      refine ⟨⟨cR_fr fC hR, mR_fr u2 hRm⟩, anX_fr fC (fun l j h1 h2 => qC l j (by omega) (by omega)) (fun k hk => u2.1 _ _ (qM _ _ (by omega) (by omega))) ha, ⟨him 0 (by omega), him 1 (by omega)⟩, ?_, ?_, ⟨?_, ?_⟩, ?_⟩
      · exact rwX_fr fC u2 (fun l j h1 h2 => qC l j (by omega) (by omega)) (fun l j h1 h2 => qM l j (by omega) (by omega)) hrw
      · exact tpX_fr fC u2 (qC _ _ (by omega) (by omega)) (fun j => qC _ _ (by omega) (by omega)) (qM _ _ (by omega) (by omega)) (fun j => qM _ _ (by omega) (by omega)) htp
      · rw [fC.1 150 1 (qC _ _ (by omega) (by omega)), u2.1 0 13 (qM _ _ (by omega) (by omega))]; exact hf1
      · rw [fC.1 150 2 (qC _ _ (by omega) (by omega)), u2.1 0 14 (qM _ _ (by omega) (by omega))]; exact hf2
      · exact drX_fr fC (qC _ _ (by omega) (by omega)) (qC _ _ (by omega) (by omega)) hdr
  · refine ⟨-2, σ, px_wi τ 0 0 (nI 0), ?_, ?_, hJ⟩
    · unfold f_12052
      simp only [y1, gd_tt, oA_arr, px_obj_s, Option.bind_some, Option.map_some, Option.bind_none, eq_self, true_or, or_true, px_av_0, px_av_1, px_av_2, px_av_10, px_av_11, bn, wi_1, wi_2, wl_1, wl_21, wl_22, wr_1, wr_21, wr_22, Sum.elim_inl, Sum.elim_inr, ↓reduceIte, Nat.reduceLT, Nat.reduceLeDiff, not_false_eq_true, not_true_eq_false, Nat.reduceEqDiff, Nat.reduceAdd, reduceCtorEq, and_true, true_and, and_false, false_and, false_or, or_false]
    · unfold f_131
      simp only [y2, la_0, gd_tt, oA_arr, px_obj_s, Option.bind_some, Option.map_some, Option.bind_none, eq_self, true_or, or_true, px_av_0, px_av_1, px_av_2, px_av_10, px_av_11, bn, wi_1, wi_2, wl_1, wl_21, wl_22, wr_1, wr_21, wr_22, Sum.elim_inl, Sum.elim_inr, ↓reduceIte, Nat.reduceLT, Nat.reduceLeDiff, not_false_eq_true, not_true_eq_false, Nat.reduceEqDiff, Nat.reduceAdd, reduceCtorEq, and_true, true_and, and_false, false_and, false_or, or_false]
theorem s_restore (h : ST σ τ) (x : Int32) : stII σ τ (f_12053 tT σ 100 x) (f_132 tT τ 0 x) := by
  have hT := ST_thr h
  have hJ := SJ_thr h
  have hR := h.1.1
  have hRm := hT.1.2
  rcases i_cases σ x with ⟨i, hi, rfl, y1, y2⟩ | ⟨y1, y2⟩
  · obtain ⟨hL, hA⟩ := im_l hR hi
    have k1 : vp_in (nI i) 2 := (vp_in_eq (by omega)).mpr (by omega)
    have k2 : (nI i).toNatClampNeg = i := nI_clamp (by omega)
    have n1 : ¬ nI 1 = nI 0 := by decide
    rcases ST_im hT hi with ⟨j1, j2⟩ | ⟨j1, j2, n, B, nr, S, C, d, G, ln, a1, a2⟩
    · refine ⟨-5, σ, px_wi τ 0 0 (nI 0), ?_, ?_, hJ⟩
      · unfold f_12053
        simp only [y1, n1, la_100, la_102, rc_100_3 hR, k1, k2, j1, gd_tt, oA_arr, px_obj_s, Option.bind_some, Option.map_some, Option.bind_none, eq_self, true_or, or_true, px_av_0, px_av_1, px_av_2, px_av_10, px_av_11, bn, wi_1, wi_2, wl_1, wl_21, wl_22, wr_1, wr_21, wr_22, Sum.elim_inl, Sum.elim_inr, ↓reduceIte, Nat.reduceLT, Nat.reduceLeDiff, not_false_eq_true, not_true_eq_false, Nat.reduceEqDiff, Nat.reduceAdd, reduceCtorEq, and_true, true_and, and_false, false_and, false_or, or_false]
      · unfold f_132
        generalize px_wi τ 0 0 (nI 0) = ζ at hT hJ hRm j2 ⊢
        simp only [y2, n1, la_0, la_2, rm_0_2 hRm, k1, k2, j2, gd_tt, oA_arr, px_obj_s, Option.bind_some, Option.map_some, Option.bind_none, eq_self, true_or, or_true, px_av_0, px_av_1, px_av_2, px_av_10, px_av_11, bn, wi_1, wi_2, wl_1, wl_21, wl_22, wr_1, wr_21, wr_22, Sum.elim_inl, Sum.elim_inr, ↓reduceIte, Nat.reduceLT, Nat.reduceLeDiff, not_false_eq_true, not_true_eq_false, Nat.reduceEqDiff, Nat.reduceAdd, reduceCtorEq, and_true, true_and, and_false, false_and, false_or, or_false]
    · obtain ⟨υ, z1, z2, z3⟩ := c_annalsB (X := 110) (A := 120 + 10 * i) (by omega) (dA_h (by omega)) (aL_110 hR) hL a1
      obtain ⟨bb, u1, ψ, rfl, u2, u4⟩ := e_restore132 hRm hi
      have qC : ∀ l j, l < 110 ∨ 117 < l → anS 110 l j = false := fun l j h1 => anS_f j h1
      have qM : ∀ l j, ¬ (l = 1 ∧ j < 1072) → rwS 0 l j = false := fun l j h1 => by
        simp only [rwS, Bool.and_eq_false_iff, beq_eq_false_iff_ne, decide_eq_false_iff_not]
        omega
      refine ⟨nI 0, υ, ψ, ?_, ?_, ?_⟩
      · unfold f_12053
        simp only [y1, n1, la_100, la_102, la_110, rc_100_0 hR, rc_100_3 hR, k1, k2, j1, hA, z1, gd_tt, oA_arr, px_obj_s, Option.bind_some, Option.map_some, Option.bind_none, eq_self, true_or, or_true, px_av_0, px_av_1, px_av_2, px_av_10, px_av_11, bn, wi_1, wi_2, wl_1, wl_21, wl_22, wr_1, wr_21, wr_22, Sum.elim_inl, Sum.elim_inr, ↓reduceIte, Nat.reduceLT, Nat.reduceLeDiff, not_false_eq_true, not_true_eq_false, Nat.reduceEqDiff, Nat.reduceAdd, reduceCtorEq, and_true, true_and, and_false, false_and, false_or, or_false]
      · unfold f_132
        generalize px_wi τ 0 0 (nI 0) = ζ at hT hJ hRm j2 u1 ⊢
        simp only [y2, n1, la_0, la_2, rm_0_2 hRm, k1, k2, j2, u1, gd_tt, oA_arr, px_obj_s, Option.bind_some, Option.map_some, Option.bind_none, eq_self, true_or, or_true, px_av_0, px_av_1, px_av_2, px_av_10, px_av_11, bn, wi_1, wi_2, wl_1, wl_21, wl_22, wr_1, wr_21, wr_22, Sum.elim_inl, Sum.elim_inr, ↓reduceIte, Nat.reduceLT, Nat.reduceLeDiff, not_false_eq_true, not_true_eq_false, Nat.reduceEqDiff, Nat.reduceAdd, reduceCtorEq, and_true, true_and, and_false, false_and, false_or, or_false]
      · obtain ⟨-, ha, ⟨i0, i1⟩, hrw, htp, ⟨hf1, hf2⟩, hdr⟩ := id hT
        refine SJ_go hJ ⟨?_, lo_fr z2 (fun l j hl => qC l j (by omega)), hi_fr u2 (fun l j hl => qM l j (by omega))⟩
        refine ⟨⟨cR_fr z2 hR, mR_fr u2 hRm⟩, ⟨n, B, nr, S, C, d, G, ln, z3, anM_copy u4 a1.2.2.1 a2⟩, ⟨?_, ?_⟩, ?_, ?_, ⟨?_, ?_⟩, ?_⟩
        · exact imX_fr (by omega) z2 u2 (fun l j hl => qC l j (by omega)) (fun j => qM _ _ (by omega)) (fun j h1 h2 => u2.1 _ _ (qM _ _ (by omega))) i0
        · exact imX_fr (by omega) z2 u2 (fun l j hl => qC l j (by omega)) (fun j => qM _ _ (by omega)) (fun j h1 h2 => u2.1 _ _ (qM _ _ (by omega))) i1
        · exact rwX_fr z2 u2 (fun l j h1 h2 => qC l j (by omega)) (fun l j h1 h2 => qM l j (by omega)) hrw
        · exact tpX_fr z2 u2 (qC _ _ (by omega)) (fun j => qC _ _ (by omega)) (qM _ _ (by omega)) (fun j => qM _ _ (by omega)) htp
        · rw [z2.1 150 1 (qC _ _ (by omega)), u2.1 0 13 (qM _ _ (by omega))]; exact hf1
        · rw [z2.1 150 2 (qC _ _ (by omega)), u2.1 0 14 (qM _ _ (by omega))]; exact hf2
        · exact drX_fr z2 (qC _ _ (by omega)) (qC _ _ (by omega)) hdr
  · refine ⟨-2, σ, px_wi τ 0 0 (nI 0), ?_, ?_, hJ⟩
    · unfold f_12053
      simp only [y1, gd_tt, oA_arr, px_obj_s, Option.bind_some, Option.map_some, Option.bind_none, eq_self, true_or, or_true, px_av_0, px_av_1, px_av_2, px_av_10, px_av_11, bn, wi_1, wi_2, wl_1, wl_21, wl_22, wr_1, wr_21, wr_22, Sum.elim_inl, Sum.elim_inr, ↓reduceIte, Nat.reduceLT, Nat.reduceLeDiff, not_false_eq_true, not_true_eq_false, Nat.reduceEqDiff, Nat.reduceAdd, reduceCtorEq, and_true, true_and, and_false, false_and, false_or, or_false]
    · unfold f_132
      simp only [y2, la_0, gd_tt, oA_arr, px_obj_s, Option.bind_some, Option.map_some, Option.bind_none, eq_self, true_or, or_true, px_av_0, px_av_1, px_av_2, px_av_10, px_av_11, bn, wi_1, wi_2, wl_1, wl_21, wl_22, wr_1, wr_21, wr_22, Sum.elim_inl, Sum.elim_inr, ↓reduceIte, Nat.reduceLT, Nat.reduceLeDiff, not_false_eq_true, not_true_eq_false, Nat.reduceEqDiff, Nat.reduceAdd, reduceCtorEq, and_true, true_and, and_false, false_and, false_or, or_false]
theorem s_alike (h : ST σ τ) (x : Int32) : stII σ τ (f_12041 tT σ 100 x) (f_109 tT τ 0 x) := by
  have hT := ST_thr h
  have hJ := SJ_thr h
  have hR := h.1.1
  have hRm := hT.1.2
  rcases i_cases σ x with ⟨i, hi, rfl, y1, y2⟩ | ⟨y1, y2⟩
  · obtain ⟨hL, hA⟩ := im_l hR hi
    have k1 : vp_in (nI i) 2 := (vp_in_eq (by omega)).mpr (by omega)
    have k2 : (nI i).toNatClampNeg = i := nI_clamp (by omega)
    have n1 : ¬ nI 1 = nI 0 := by decide
    rcases ST_im hT hi with ⟨j1, j2⟩ | ⟨j1, j2, m, D, nr, S, C, d, G, ln, a1, a2⟩
    · refine ⟨-5, σ, px_wi τ 0 0 (nI 0), ?_, ?_, hJ⟩
      · unfold f_12041
        simp only [y1, n1, la_100, la_102, rc_100_3 hR, k1, k2, j1, gd_tt, oA_arr, px_obj_s, Option.bind_some, Option.map_some, Option.bind_none, eq_self, true_or, or_true, px_av_0, px_av_1, px_av_2, px_av_10, px_av_11, bn, wi_1, wi_2, wl_1, wl_21, wl_22, wr_1, wr_21, wr_22, Sum.elim_inl, Sum.elim_inr, ↓reduceIte, Nat.reduceLT, Nat.reduceLeDiff, not_false_eq_true, not_true_eq_false, Nat.reduceEqDiff, Nat.reduceAdd, reduceCtorEq, and_true, true_and, and_false, false_and, false_or, or_false]
      · unfold f_109
        generalize px_wi τ 0 0 (nI 0) = ζ at hT hJ hRm j2 ⊢
        simp only [y2, n1, la_0, la_2, rm_0_2 hRm, k1, k2, j2, gd_tt, oA_arr, px_obj_s, Option.bind_some, Option.map_some, Option.bind_none, eq_self, true_or, or_true, px_av_0, px_av_1, px_av_2, px_av_10, px_av_11, bn, wi_1, wi_2, wl_1, wl_21, wl_22, wr_1, wr_21, wr_22, Sum.elim_inl, Sum.elim_inr, ↓reduceIte, Nat.reduceLT, Nat.reduceLeDiff, not_false_eq_true, not_true_eq_false, Nat.reduceEqDiff, Nat.reduceAdd, reduceCtorEq, and_true, true_and, and_false, false_and, false_or, or_false]
    · obtain ⟨n, B, nr0, S0, C0, d0, G0, hc, hm⟩ := ST_cld hT
      have ht := hc.1.1.2
      have hn := ht.2.2.2.1.1
      have hu := a1.1
      have hm11 := hu.2.2.2.1.1
      have e1 := ht.2.2.2.2.1
      have e2 := hu.2.2.2.2.1
      obtain ⟨υ, ρ, w1, w2, w3⟩ := e_alike hm.1.1 (off := 1072 * (i + 1)) (by omega) a2.1 a2.2.1 a2.2.2.1
      have off : nI 1072 * (nI i + nI 1) = nI (1072 * (i + 1)) := by rw [nI_add, pk_mul]
      have mside : f_109 tT τ 0 (nI i) = some (if 8 < n ∨ 8 < m then -4 else mb (decide (n = m) && exb n B D 0 idf), υ) := by
        unfold f_109
        generalize px_wi τ 0 0 (nI 0) = ζ at hT hJ hRm j2 w1 ⊢
        simp only [y2, n1, la_0, la_2, rm_0_2 hRm, k1, k2, j2, off, w1, w2, gd_tt, oA_arr, px_obj_s, Option.bind_some, Option.map_some, Option.bind_none, eq_self, true_or, or_true, px_av_0, px_av_1, px_av_2, px_av_10, px_av_11, bn, wi_1, wi_2, wl_1, wl_21, wl_22, wr_1, wr_21, wr_22, Sum.elim_inl, Sum.elim_inr, ↓reduceIte, Nat.reduceLT, Nat.reduceLeDiff, not_false_eq_true, not_true_eq_false, Nat.reduceEqDiff, Nat.reduceAdd, reduceCtorEq, and_true, true_and, and_false, false_and, false_or, or_false]
      have hST : ∀ χ, fr SC σ χ → SJ σ τ χ υ := fun χ hχ => SJ_go hJ (SJ_ask hT hχ (fk_SM w3))
      by_cases h8 : 8 < n
      · have b1 : nI 8 < nI n := by rw [nI_ltI (by omega) (by omega)]; exact h8
        rw [if_pos (Or.inl h8)] at mside
        refine ⟨-4, σ, υ, ?_, mside, hST σ (fr_rf _ _)⟩
        unfold f_12041 f_12041_31 f_12041_55
        simp only [y1, n1, la_100, la_102, la_110, la_111, rc_100_0 hR, rc_100_3 hR, rc_110_0 hR, k1, k2, j1, hA, hL.1.1, e1, b1, gd_tt, oA_arr, px_obj_s, Option.bind_some, Option.map_some, Option.bind_none, eq_self, true_or, or_true, px_av_0, px_av_1, px_av_2, px_av_10, px_av_11, bn, wi_1, wi_2, wl_1, wl_21, wl_22, wr_1, wr_21, wr_22, Sum.elim_inl, Sum.elim_inr, ↓reduceIte, Nat.reduceLT, Nat.reduceLeDiff, not_false_eq_true, not_true_eq_false, Nat.reduceEqDiff, Nat.reduceAdd, reduceCtorEq, and_true, true_and, and_false, false_and, false_or, or_false]
      · have b1 : ¬ nI 8 < nI n := by rw [nI_ltI (by omega) (by omega)]; exact h8
        by_cases h8m : 8 < m
        · have b2 : ¬ nI m ≤ nI 8 := by rw [nI_leI (by omega) (by omega)]; omega
          rw [if_pos (Or.inr h8m)] at mside
          refine ⟨-4, σ, υ, ?_, mside, hST σ (fr_rf _ _)⟩
          unfold f_12041 f_12041_31 f_12041_55
          simp only [y1, n1, la_100, la_102, la_110, la_111, rc_100_0 hR, rc_100_3 hR, rc_110_0 hR, k1, k2, j1, hA, hL.1.1, hL.2.2.1.1, hL.1.2.1, e1, e2, b1, b2, gd_tt, oA_arr, px_obj_s, Option.bind_some, Option.map_some, Option.bind_none, eq_self, true_or, or_true, px_av_0, px_av_1, px_av_2, px_av_10, px_av_11, bn, wi_1, wi_2, wl_1, wl_21, wl_22, wr_1, wr_21, wr_22, Sum.elim_inl, Sum.elim_inr, ↓reduceIte, Nat.reduceLT, Nat.reduceLeDiff, not_false_eq_true, not_true_eq_false, Nat.reduceEqDiff, Nat.reduceAdd, reduceCtorEq, and_true, true_and, and_false, false_and, false_or, or_false]
        · have b2 : nI m ≤ nI 8 := by rw [nI_leI (by omega) (by omega)]; omega
          rw [if_neg (by omega)] at mside
          obtain ⟨χ, v1, v2⟩ := c_canBe hR ht (u := 120 + 10 * i + 1) (by omega) hu (by omega)
          refine ⟨_, χ, υ, ?_, mside, hST χ v2⟩
          unfold f_12041 f_12041_31 f_12041_76 f_12041_80
          simp only [y1, n1, la_100, la_102, la_110, la_111, la_190, rc_100_0 hR, rc_100_3 hR, rc_100_8 hR, rc_110_0 hR, k1, k2, j1, hA, hL.1.1, hL.2.2.1.1, hL.1.2.1, e1, e2, b1, b2, v1, gd_tt, oA_arr, px_obj_s, Option.bind_some, Option.map_some, Option.bind_none, eq_self, true_or, or_true, px_av_0, px_av_1, px_av_2, px_av_10, px_av_11, bn, wi_1, wi_2, wl_1, wl_21, wl_22, wr_1, wr_21, wr_22, Sum.elim_inl, Sum.elim_inr, ↓reduceIte, Nat.reduceLT, Nat.reduceLeDiff, not_false_eq_true, not_true_eq_false, Nat.reduceEqDiff, Nat.reduceAdd, reduceCtorEq, and_true, true_and, and_false, false_and, false_or, or_false]
          cases decide (n = m) && exb n B D 0 idf <;> rfl
  · refine ⟨-2, σ, px_wi τ 0 0 (nI 0), ?_, ?_, hJ⟩
    · unfold f_12041
      simp only [y1, gd_tt, oA_arr, px_obj_s, Option.bind_some, Option.map_some, Option.bind_none, eq_self, true_or, or_true, px_av_0, px_av_1, px_av_2, px_av_10, px_av_11, bn, wi_1, wi_2, wl_1, wl_21, wl_22, wr_1, wr_21, wr_22, Sum.elim_inl, Sum.elim_inr, ↓reduceIte, Nat.reduceLT, Nat.reduceLeDiff, not_false_eq_true, not_true_eq_false, Nat.reduceEqDiff, Nat.reduceAdd, reduceCtorEq, and_true, true_and, and_false, false_and, false_or, or_false]
    · unfold f_109
      simp only [y2, la_0, gd_tt, oA_arr, px_obj_s, Option.bind_some, Option.map_some, Option.bind_none, eq_self, true_or, or_true, px_av_0, px_av_1, px_av_2, px_av_10, px_av_11, bn, wi_1, wi_2, wl_1, wl_21, wl_22, wr_1, wr_21, wr_22, Sum.elim_inl, Sum.elim_inr, ↓reduceIte, Nat.reduceLT, Nat.reduceLeDiff, not_false_eq_true, not_true_eq_false, Nat.reduceEqDiff, Nat.reduceAdd, reduceCtorEq, and_true, true_and, and_false, false_and, false_or, or_false]
end
