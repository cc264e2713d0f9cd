/-! cure asked -/
def agK (σ : px_M) (fc : Option (Int32 × px_M)) (fm : px_M → Option (Int32 × px_M)) (n : Nat) (B : Nat → Nat) : Prop := ∃ r σ', fc = some (r, σ') ∧ fr SC σ σ' ∧ ∀ τ, mo τ n B → ∃ υ, fm τ = some (r, υ) ∧ fk SM τ υ
section
variable {σ τ : px_M} {n : Nat} {B : Nat → Nat}
def rOK (n : Nat) (B : Nat → Nat) (r : Nat) : Prop := (r = 7 ∧ ∀ j, j ≤ 6 → ¬ cu n B j (-1)) ∨ (r ≤ 6 ∧ cu n B r (-1) ∧ ∀ j, j < r → ¬ cu n B j (-1))
theorem e_least (hm : mo σ n B) {r : Nat} (hr : rOK n B r) (X v : Int32) (hfin : ∀ ρ, fk CK σ ρ → ∃ υ, f_117_49 tT ρ 0 X (nI r) = some (v, υ) ∧ fk SM σ υ) : ∃ υ, f_117_28 tT 0 X (nI 0) σ = some (v, υ) ∧ fk SM σ υ := by
  have m1 : (-1 : Int32).toInt = -1 := by decide
  have hr7 : r ≤ 7 := by rcases hr with h | h <;> omega
  have hno : ∀ j, j < r → ¬ cu n B j (-1) := fun j hj => by
    rcases hr with h | h
    · exact h.2 j (by omega)
    · exact h.2.2 j hj
  have key : ∃ b, f_117_28 tT 0 X (nI 0) σ = some b ∧ ∃ υ, b = (v, υ) ∧ fk SM σ υ := by
    unfold f_117_28
    refine lp_for (F := fun s : Int32 × px_M => F_117_28 tT 0 X s.1 s.2) (fun k q => ∃ ρ, q = (nI k, ρ) ∧ fk CK σ ρ) _ r (fun k q hk hI => ?_) (fun q hI => ?_) 0 (nI 0, σ) (by omega) ⟨σ, rfl, fk_rf _ _⟩
    · obtain ⟨ρ, rfl, g1⟩ := hI
      have a1 : ¬ nI 7 ≤ nI k := by rw [nI_leI (by omega) (by omega)]; omega
      obtain ⟨υ, q1, q2⟩ := e_cure (n := n) (f := -1) k 24 (by omega) ρ B (-1) (mo_fk g1 hm) m1 (by omega)
      rw [cub_f (hno k hk), mb_f0] at q1
      refine ⟨(nI (k + 1), υ), ?_, υ, rfl, fk_tr g1 q2⟩
      dsimp only
      unfold F_117_28
      simp only [a1, la_0, gd_tt, oA_arr, px_obj_s, Option.bind_some, Option.map_some, Option.bind_none, eq_self, true_or, or_true, px_av_0, px_av_1, px_av_2, px_av_10, px_av_11, bn, wi_1, wi_2, wl_1, wl_21, wl_22, wr_1, wr_21, wr_22, Sum.elim_inl, Sum.elim_inr, ↓reduceIte, Nat.reduceLT, Nat.reduceLeDiff, not_false_eq_true, not_true_eq_false, Nat.reduceEqDiff, Nat.reduceAdd, reduceCtorEq, and_true, true_and, and_false, false_and, false_or, or_false, q1, nI_add]
    · obtain ⟨ρ, rfl, g1⟩ := hI
      rcases hr with ⟨rfl, -⟩ | ⟨h6, hc, -⟩
      · obtain ⟨υ, q1, q2⟩ := hfin ρ g1
        refine ⟨(v, υ), ?_, υ, rfl, q2⟩
        have a1 : nI 7 ≤ nI 7 := by decide
        dsimp only
        unfold F_117_28
        rw [if_pos a1, q1]
        rfl
      · have a1 : ¬ nI 7 ≤ nI r := by rw [nI_leI (by omega) (by omega)]; omega
        obtain ⟨ω, y1, y2⟩ := e_cure (n := n) (f := -1) r 24 (by omega) ρ B (-1) (mo_fk g1 hm) m1 (by omega)
        rw [cub_t.mpr hc, mb_t1] at y1
        obtain ⟨υ, q1, q2⟩ := hfin ω (fk_tr g1 y2)
        refine ⟨(v, υ), ?_, υ, rfl, q2⟩
        dsimp only
        unfold F_117_28
        simp only [a1, la_0, gd_tt, oA_arr, px_obj_s, Option.bind_some, Option.map_some, Option.bind_none, eq_self, true_or, or_true, px_av_0, px_av_1, px_av_2, px_av_10, px_av_11, bn, wi_1, wi_2, wl_1, wl_21, wl_22, wr_1, wr_21, wr_22, Sum.elim_inl, Sum.elim_inr, ↓reduceIte, Nat.reduceLT, Nat.reduceLeDiff, not_false_eq_true, not_true_eq_false, Nat.reduceEqDiff, Nat.reduceAdd, reduceCtorEq, and_true, true_and, and_false, false_and, false_or, or_false, y1, n10, q1]
  obtain ⟨b, q1, υ, rfl, q2⟩ := key
  exact ⟨υ, q1, q2⟩
theorem a_cure (hc : cl σ n B) (x : Int32) : agK σ (f_12044 tT σ 100 x) (fun τ => f_117 tT τ 0 x) n B := by
  obtain ⟨hR, ht⟩ := hc
  have hw := ht.2.2.2.1
  have hn := hw.1
  obtain ⟨r, ω, w1, w2, w3, w4⟩ := c_walls hR ht
  have hr : rOK n B r := by
    rcases w4 with h | ⟨h6, V, -, hV, -⟩
    · exact Or.inl h
    · exact Or.inr ⟨h6, ⟨V, hV.1⟩, hV.2.1⟩
  have hr7 : r ≤ 7 := by rcases hr with h | h <;> omega
  have ckSM : ∀ {α β : px_M}, fk CK α β → fk SM α β := fun h => fk_mono h SM_CK
  by_cases hx0 : x = nI 0
  · subst hx0
    by_cases h7 : r = 7
    · have a1 : ¬ nI r ≤ nI 6 := by rw [nI_leI (by omega) (by omega)]; omega
      refine ⟨-4, ω, ?_, w2, fun τ hm => ?_⟩
      · simp only [f_12044, la_100, la_110, la_200, rc_100_0 hR, rc_100_9 hR, rc_110_0 hR, gd_tt, oA_arr, px_obj_s, Option.bind_some, Option.map_some, Option.bind_none, eq_self, true_or, or_true, px_av_0, px_av_1, px_av_2, px_av_10, px_av_11, bn, wi_1, wi_2, wl_1, wl_21, wl_22, wr_1, wr_21, wr_22, Sum.elim_inl, Sum.elim_inr, ↓reduceIte, Nat.reduceLT, Nat.reduceLeDiff, not_false_eq_true, not_true_eq_false, Nat.reduceEqDiff, Nat.reduceAdd, reduceCtorEq, and_true, true_and, and_false, false_and, false_or, or_false, w1, a1]
      · obtain ⟨υ, q1, q2⟩ := e_least (mo_thr hm) hr (nI 0) (-4) (fun ρ hρ => ⟨ρ, by
          have z : (nI r = nI 7) = True := eq_true (by rw [h7])
          simp only [f_117_49, gd_tt, oA_arr, px_obj_s, Option.bind_some, Option.map_some, Option.bind_none, eq_self, true_or, or_true, px_av_0, px_av_1, px_av_2, px_av_10, px_av_11, bn, wi_1, wi_2, wl_1, wl_21, wl_22, wr_1, wr_21, wr_22, Sum.elim_inl, Sum.elim_inr, ↓reduceIte, Nat.reduceLT, Nat.reduceLeDiff, not_false_eq_true, not_true_eq_false, Nat.reduceEqDiff, Nat.reduceAdd, reduceCtorEq, and_true, true_and, and_false, false_and, false_or, or_false, z], ckSM hρ⟩)
        refine ⟨υ, ?_, fk_tr fk_thr q2⟩
        simp only [f_117, f_117_26, la_0, gd_tt, oA_arr, px_obj_s, Option.bind_some, Option.map_some, Option.bind_none, eq_self, true_or, or_true, px_av_0, px_av_1, px_av_2, px_av_10, px_av_11, bn, wi_1, wi_2, wl_1, wl_21, wl_22, wr_1, wr_21, wr_22, Sum.elim_inl, Sum.elim_inr, ↓reduceIte, Nat.reduceLT, Nat.reduceLeDiff, not_false_eq_true, not_true_eq_false, Nat.reduceEqDiff, Nat.reduceAdd, reduceCtorEq, and_true, true_and, and_false, false_and, false_or, or_false, q1]
    · have a1 : nI r ≤ nI 6 := by rw [nI_leI (by omega) (by omega)]; omega
      refine ⟨nI r, ω, ?_, w2, fun τ hm => ?_⟩
      · simp only [f_12044, f_12044_47, la_100, la_110, la_200, rc_100_0 hR, rc_100_9 hR, rc_110_0 hR, gd_tt, oA_arr, px_obj_s, Option.bind_some, Option.map_some, Option.bind_none, eq_self, true_or, or_true, px_av_0, px_av_1, px_av_2, px_av_10, px_av_11, bn, wi_1, wi_2, wl_1, wl_21, wl_22, wr_1, wr_21, wr_22, Sum.elim_inl, Sum.elim_inr, ↓reduceIte, Nat.reduceLT, Nat.reduceLeDiff, not_false_eq_true, not_true_eq_false, Nat.reduceEqDiff, Nat.reduceAdd, reduceCtorEq, and_true, true_and, and_false, false_and, false_or, or_false, w1, a1]
      · obtain ⟨υ, q1, q2⟩ := e_least (mo_thr hm) hr (nI 0) (nI r) (fun ρ hρ => ⟨ρ, by
          have z : ¬ nI r = nI 7 := by rw [nI_eq (by omega) (by omega)]; exact h7
          simp only [f_117_49, gd_tt, oA_arr, px_obj_s, Option.bind_some, Option.map_some, Option.bind_none, eq_self, true_or, or_true, px_av_0, px_av_1, px_av_2, px_av_10, px_av_11, bn, wi_1, wi_2, wl_1, wl_21, wl_22, wr_1, wr_21, wr_22, Sum.elim_inl, Sum.elim_inr, ↓reduceIte, Nat.reduceLT, Nat.reduceLeDiff, not_false_eq_true, not_true_eq_false, Nat.reduceEqDiff, Nat.reduceAdd, reduceCtorEq, and_true, true_and, and_false, false_and, false_or, or_false, z], ckSM hρ⟩)
        refine ⟨υ, ?_, fk_tr fk_thr q2⟩
        simp only [f_117, f_117_26, la_0, gd_tt, oA_arr, px_obj_s, Option.bind_some, Option.map_some, Option.bind_none, eq_self, true_or, or_true, px_av_0, px_av_1, px_av_2, px_av_10, px_av_11, bn, wi_1, wi_2, wl_1, wl_21, wl_22, wr_1, wr_21, wr_22, Sum.elim_inl, Sum.elim_inr, ↓reduceIte, Nat.reduceLT, Nat.reduceLeDiff, not_false_eq_true, not_true_eq_false, Nat.reduceEqDiff, Nat.reduceAdd, reduceCtorEq, and_true, true_and, and_false, false_and, false_or, or_false, q1]
  · rcases rg_cases x 10 15 (by omega) with ⟨X, hX1, hX2, rfl⟩ | hno
    · obtain ⟨y, rfl⟩ : ∃ y, X = 10 + y := ⟨X - 10, by omega⟩
      have b1 : ¬ nI (10 + y) < nI 10 := by rw [nI_ltI (by omega) (by omega)]; omega
      have b2 : nI (10 + y) < nI 16 := by rw [nI_ltI (by omega) (by omega)]; omega
      have sub1 : nI (10 + y) - nI 10 = nI y := by rw [ni_subL (by omega)]; congr 1; omega
      have w0 : ∀ ω, f_2 tT ω (nI (10 + y)).toInt64 (lN 10) (lN 15) = some (nI 1) := fun ω => by
        rw [e_withinN ω (nI (10 + y)) (lo := 10) (hi := 15) (by omega) (by omega), decide_eq_true (by rw [nI_toInt (by omega)]; omega), mb_t1]
      have top : ∀ (v : Int32) (τ : px_M), mo τ n B → (∃ υ, f_117_28 tT 0 (nI (10 + y)) (nI 0) (px_wi τ 0 0 (nI 0)) = some (v, υ) ∧ fk SM (px_wi τ 0 0 (nI 0)) υ) → ∃ υ, f_117 tT τ 0 (nI (10 + y)) = some (v, υ) ∧ fk SM τ υ := fun v τ hm ⟨υ, q1, q2⟩ => ⟨υ, by
          simp only [f_117, f_117_26, la_0, hx0, gd_tt, oA_arr, px_obj_s, Option.bind_some, Option.map_some, Option.bind_none, eq_self, true_or, or_true, px_av_0, px_av_1, px_av_2, px_av_10, px_av_11, bn, wi_1, wi_2, wl_1, wl_21, wl_22, wr_1, wr_21, wr_22, Sum.elim_inl, Sum.elim_inr, ↓reduceIte, Nat.reduceLT, Nat.reduceLeDiff, not_false_eq_true, not_true_eq_false, Nat.reduceEqDiff, Nat.reduceAdd, reduceCtorEq, and_true, true_and, and_false, false_and, false_or, or_false, w0, n10, q1], fk_tr fk_thr q2⟩
      rcases w4 with ⟨h7, -⟩ | ⟨h6, V, hV, hB, htω⟩
      · have a1 : ¬ nI r ≤ nI 6 := by rw [nI_leI (by omega) (by omega)]; omega
        refine ⟨-4, ω, ?_, w2, fun τ hm => top _ τ hm ?_⟩
        · simp only [f_12044, hx0, b1, b2, la_100, la_110, la_200, rc_100_0 hR, rc_100_9 hR, rc_110_0 hR, gd_tt, oA_arr, px_obj_s, Option.bind_some, Option.map_some, Option.bind_none, eq_self, true_or, or_true, px_av_0, px_av_1, px_av_2, px_av_10, px_av_11, bn, wi_1, wi_2, wl_1, wl_21, wl_22, wr_1, wr_21, wr_22, Sum.elim_inl, Sum.elim_inr, ↓reduceIte, Nat.reduceLT, Nat.reduceLeDiff, not_false_eq_true, not_true_eq_false, Nat.reduceEqDiff, Nat.reduceAdd, reduceCtorEq, and_true, true_and, and_false, false_and, false_or, or_false, w1, a1]
        · exact e_least (mo_thr hm) hr _ (-4) (fun ρ hρ => ⟨ρ, by
            have z : (nI r = nI 7) = True := eq_true (by rw [h7])
            simp only [f_117_49, gd_tt, oA_arr, px_obj_s, Option.bind_some, Option.map_some, Option.bind_none, eq_self, true_or, or_true, px_av_0, px_av_1, px_av_2, px_av_10, px_av_11, bn, wi_1, wi_2, wl_1, wl_21, wl_22, wr_1, wr_21, wr_22, Sum.elim_inl, Sum.elim_inr, ↓reduceIte, Nat.reduceLT, Nat.reduceLeDiff, not_false_eq_true, not_true_eq_false, Nat.reduceEqDiff, Nat.reduceAdd, reduceCtorEq, and_true, true_and, and_false, false_and, false_or, or_false, z], ckSM hρ⟩)
      · have a1 : nI r ≤ nI 6 := by rw [nI_leI (by omega) (by omega)]; omega
        have z7 : ¬ nI r = nI 7 := by rw [nI_eq (by omega) (by omega)]; omega
        obtain ⟨v, p1, p2⟩ := c_wallAt w3 htω (k := y) (by omega) hV hB.1.1
        have hbc := isB_bc hB
        refine ⟨v, ω, ?_, w2, fun τ hm => top _ τ hm ?_⟩
        · simp only [f_12044, f_12044_51, hx0, b1, b2, la_100, la_110, la_200, rc_100_0 hR, rc_100_9 hR, rc_110_0 hR, gd_tt, oA_arr, px_obj_s, Option.bind_some, Option.map_some, Option.bind_none, eq_self, true_or, or_true, px_av_0, px_av_1, px_av_2, px_av_10, px_av_11, bn, wi_1, wi_2, wl_1, wl_21, wl_22, wr_1, wr_21, wr_22, Sum.elim_inl, Sum.elim_inr, ↓reduceIte, Nat.reduceLT, Nat.reduceLeDiff, not_false_eq_true, not_true_eq_false, Nat.reduceEqDiff, Nat.reduceAdd, reduceCtorEq, and_true, true_and, and_false, false_and, false_or, or_false, w1, a1, rc_100_9 w3, sub1, p1]
        · refine e_least (mo_thr hm) hr _ v (fun ρ hρ => ?_)
          have hmρ := mo_fk hρ (mo_thr hm)
          by_cases hyr : y < r
          · have lt1 : nI y < nI r := by rw [nI_ltI (by omega) (by omega)]; exact hyr
            obtain ⟨ρ1, e1, e2, e3⟩ := e_keeps hmρ.1 la_18 (by decide)
            have m1 := mo_on (by decide) e2 hmρ
            obtain ⟨b, q1, υ, a, c, rfl, q2, q3, q4, q5, q6⟩ := e_row hw h6 hB hyr m1.1 m1
            have hv : v = nI (100 * a + c) := by
              rcases p2 with ⟨-, h⟩ | ⟨a', c', u1, u2, u3, u4⟩
              · omega
              · obtain ⟨rfl, rfl⟩ := qd_inj u1 (by omega) q2 (by omega) (kth_uniq u4 q4)
                exact u3
            rw [hv]
            refine ⟨υ, ?_, fk_tr (ckSM hρ) (fk_back (Q := SM) (ρ := υ) (fr_tr (fr_mono e2 (fun l j q => ?_)) (fr_mono q5 (fun l j q => ?_))) SM_1 (fr_rf _ _) (fun k hk => by rw [q6 k hk, e3 k hk]))⟩
            · simp only [f_117_49, z7, hx0, gd_tt, oA_arr, px_obj_s, Option.bind_some, Option.map_some, Option.bind_none, eq_self, true_or, or_true, px_av_0, px_av_1, px_av_2, px_av_10, px_av_11, bn, wi_1, wi_2, wl_1, wl_21, wl_22, wr_1, wr_21, wr_22, Sum.elim_inl, Sum.elim_inr, ↓reduceIte, Nat.reduceLT, Nat.reduceLeDiff, not_false_eq_true, not_true_eq_false, Nat.reduceEqDiff, Nat.reduceAdd, reduceCtorEq, and_true, true_and, and_false, false_and, false_or, or_false, sub1, lt1, la_0, rm_0_18 hmρ.1, e1, q1]
            · simp only [Bool.or_eq_false_iff] at q
              simp only [on, beq_eq_false_iff_ne]
              rintro rfl
              have := q.1
              simp [SM] at this
            · simp only [Bool.or_eq_false_iff] at q
              simp only [R31, CKt, Bool.or_eq_false_iff, beq_eq_false_iff_ne]
              refine ⟨⟨SM_CK l j q.1, q.2⟩, ?_⟩
              rintro rfl
              have := q.1
              simp [SM] at this
          · have lt1 : ¬ nI y < nI r := by rw [nI_ltI (by omega) (by omega)]; exact hyr
            have hv : v = -1 := by
              rcases p2 with ⟨h, -⟩ | ⟨a', c', u1, u2, u3, u4⟩
              · exact h
              · have s1 := bc_step V (qd a' c')
                rw [u4.2.1] at s1
                have := u4.2.2
                have t1 : (true : Bool).toNat = 1 := rfl
                omega
            rw [hv]
            refine ⟨ρ, ?_, ckSM hρ⟩
            simp only [f_117_49, z7, hx0, gd_tt, oA_arr, px_obj_s, Option.bind_some, Option.map_some, Option.bind_none, eq_self, true_or, or_true, px_av_0, px_av_1, px_av_2, px_av_10, px_av_11, bn, wi_1, wi_2, wl_1, wl_21, wl_22, wr_1, wr_21, wr_22, Sum.elim_inl, Sum.elim_inr, ↓reduceIte, Nat.reduceLT, Nat.reduceLeDiff, not_false_eq_true, not_true_eq_false, Nat.reduceEqDiff, Nat.reduceAdd, reduceCtorEq, and_true, true_and, and_false, false_and, false_or, or_false, sub1, lt1]
    · refine ⟨-2, σ, ?_, fr_rf _ _, fun τ hm => ⟨_, ?_, fk_thr⟩⟩
      · by_cases b1 : x < nI 10
        · simp only [f_12044, hx0, b1, ↓reduceIte]
        · have b2 : ¬ x < nI 16 := by
            rw [fa_lt, nI_toInt (by omega)] at b1 ⊢
            omega
          simp only [f_12044, hx0, b1, b2, ↓reduceIte]
      · have w0 := e_withinN (px_wi τ 0 0 (nI 0)) x (lo := 10) (hi := 15) (by omega) (by omega)
        rw [decide_eq_false hno, mb_f0] at w0
        simp only [f_117, hx0, la_0, gd_tt, oA_arr, px_obj_s, Option.bind_some, Option.map_some, Option.bind_none, eq_self, true_or, or_true, px_av_0, px_av_1, px_av_2, px_av_10, px_av_11, bn, wi_1, wi_2, wl_1, wl_21, wl_22, wr_1, wr_21, wr_22, Sum.elim_inl, Sum.elim_inr, ↓reduceIte, Nat.reduceLT, Nat.reduceLeDiff, not_false_eq_true, not_true_eq_false, Nat.reduceEqDiff, Nat.reduceAdd, reduceCtorEq, and_true, true_and, and_false, false_and, false_or, or_false, w0]
end
