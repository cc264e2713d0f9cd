/-! the model's next token -/
def NX (l j : Nat) : Bool := l == 0 && (j == 6 || j == 7 || j == 9 || j == 10)
def tp (τ : px_M) (b : Nat → Nat) (e : Nat) : Prop := mR τ.2.2 ∧ τ.1 0 8 = nI e ∧ e ≤ 900 ∧ (∀ i, i < 900 → τ.1 3 i = nI (b i)) ∧ ∀ i, b i < 256
section
variable {σ τ : px_M} {b : Nat → Nat} {e p s q : Nat}
theorem tp_fr {S : Nat → Nat → Bool} (h : fr S τ σ) (h0 : S 0 8 = false) (h1 : ∀ j, S 3 j = false) (ht : tp τ b e) : tp σ b e := ⟨mR_fr h ht.1, by rw [h.1 0 8 h0]; exact ht.2.1, ht.2.2.1, fun i hi => by rw [h.1 3 i (h1 i)]; exact ht.2.2.2.1 i hi, ht.2.2.2.2⟩
theorem tp_NX (h : fr NX τ σ) (ht : tp τ b e) : tp σ b e := tp_fr h rfl (fun _ => rfl) ht
theorem n_see (ht : tp τ b e) (hp : p ≤ 900) : f_5 tT τ 0 (nI p) = some (if p < e then nI (b p) else -1) := by
  obtain ⟨hR, h8, he, hb, -⟩ := ht
  unfold f_5
  by_cases h : p < e
  · have a1 : ¬ nI e ≤ nI p := by rw [nI_leI (by omega) (by omega)]; omega
    have c1 : vp_in (nI p) 900 := (vp_in_eq (by omega)).mpr (by omega)
    have c2 : (nI p).toNatClampNeg = p := nI_clamp (by omega)
    simp only [la_0, la_3, rm_0_3 hR, h8, a1, c1, c2, hb p (by omega), h, gd_tt, oA_arr, px_obj_s, Option.bind_some, Option.map_some, Option.bind_none, eq_self, true_or, or_true, px_av_0, px_av_1, px_av_2, px_av_10, px_av_11, bn, wi_1, wi_2, wl_1, wl_21, wl_22, wr_1, wr_21, wr_22, Sum.elim_inl, Sum.elim_inr, ↓reduceIte, Nat.reduceLT, Nat.reduceLeDiff, not_false_eq_true, not_true_eq_false, Nat.reduceEqDiff, Nat.reduceAdd, reduceCtorEq, and_true, true_and, and_false, false_and, false_or, or_false]
  · have a1 : nI e ≤ nI p := by rw [nI_leI (by omega) (by omega)]; omega
    simp only [la_0, h8, a1, h, gd_tt, oA_arr, px_obj_s, Option.bind_some, Option.map_some, Option.bind_none, eq_self, true_or, or_true, px_av_0, px_av_1, px_av_2, px_av_10, px_av_11, bn, wi_1, wi_2, wl_1, wl_21, wl_22, wr_1, wr_21, wr_22, Sum.elim_inl, Sum.elim_inr, ↓reduceIte, Nat.reduceLT, Nat.reduceLeDiff, not_false_eq_true, not_true_eq_false, Nat.reduceEqDiff, Nat.reduceAdd, reduceCtorEq, and_true, true_and, and_false, false_and, false_or, or_false]
theorem n_small (c : Nat) (hc : c < 256) : f_6 tT τ (nI c) = some (mb (decide (97 ≤ c ∧ c ≤ 122))) := by
  unfold f_6
  by_cases h1 : c < 97
  · rw [if_pos (by rw [nI_ltI (by omega) (by omega)]; exact h1), decide_eq_false (by omega)]; rfl
  · rw [if_neg (by rw [nI_ltI (by omega) (by omega)]; exact h1)]
    by_cases h2 : 122 < c
    · rw [if_pos (by rw [nI_ltI (by omega) (by omega)]; exact h2), decide_eq_false (by omega)]; rfl
    · rw [if_neg (by rw [nI_ltI (by omega) (by omega)]; exact h2), decide_eq_true (by omega)]; rfl
theorem n_digit (c : Nat) (hc : c < 256) : f_7 tT τ (nI c) = some (mb (decide (48 ≤ c ∧ c ≤ 57))) := by
  unfold f_7
  by_cases h1 : c < 48
  · rw [if_pos (by rw [nI_ltI (by omega) (by omega)]; exact h1), decide_eq_false (by omega)]; rfl
  · rw [if_neg (by rw [nI_ltI (by omega) (by omega)]; exact h1)]
    by_cases h2 : 57 < c
    · rw [if_pos (by rw [nI_ltI (by omega) (by omega)]; exact h2), decide_eq_false (by omega)]; rfl
    · rw [if_neg (by rw [nI_ltI (by omega) (by omega)]; exact h2), decide_eq_true (by omega)]; rfl
theorem n_m1 : f_6 tT τ (-1) = some (nI 0) ∧ f_7 tT τ (-1) = some (nI 0) := by
  have h1 : (-1 : Int32) < nI 97 := by decide
  have h2 : (-1 : Int32) < nI 48 := by decide
  unfold f_6 f_7
  rw [if_pos h1, if_pos h2]
  exact ⟨rfl, rfl⟩
theorem x_tx {j : Nat} (hj : j < 84) : f_23002 tT τ 1000 (nI j) = some (nI (TX j)) := x_char la_1000 la_1100 (by omega) hj (TX_v j hj).1 (TX_v j hj).2
/-- which word it is -/
theorem e_key (ht : tp τ b e) (h6 : τ.1 0 6 = nI s) (h7 : τ.1 0 7 = nI q) (hsq : s < q) (hq : q ≤ e) : ∃ κ, f_8 tT τ 0 = some (nI κ) ∧ wdp b s q κ := by
  obtain ⟨hR, h8, he, hb, hb2⟩ := id ht
  have ln : f_23000 tT τ 1000 = some (nI 84) := x_len la_1000 la_1100 (by omega)
  have t32 : ∀ c, c < 128 → (nI c = nI 32 ↔ c = 32) := fun c hc => nI_eq (by omega) (by omega)
  -- skipping to the next word
  have skp : ∀ i, i < 15 → f_8_97 tT τ 0 (nI i) (nI (wp i)) = some (.inl (nI (i + 1), nI (wp (i + 1)))) := by
    intro i hi
    obtain ⟨w1, w2, w3, w4, w5⟩ := wp_ok i hi
    unfold f_8_97
    have key : ∀ k j, j + k = wln i → lpO (fun s : Int32 => F_8_97 tT τ 0 (nI i) s) (nI (wp i + j)) = some (.inl (nI (i + 1), nI (wp (i + 1)))) := by
      intro k
      induction k with
      | zero =>
        intro j hj
        have hjw : j = wln i := by omega
        refine lp_end ?_
        unfold F_8_97
        rw [hjw]
        have z : nI 32 = nI 32 := rfl
        simp only [la_1000, x_tx (show wp i + wln i < 84 by omega), w5, gd_tt, oA_arr, px_obj_s, Option.bind_some, Option.map_some, Option.bind_none, eq_self, true_or, or_true, px_av_0, px_av_1, px_av_2, px_av_10, px_av_11, bn, wi_1, wi_2, wl_1, wl_21, wl_22, wr_1, wr_21, wr_22, Sum.elim_inl, Sum.elim_inr, ↓reduceIte, Nat.reduceLT, Nat.reduceLeDiff, not_false_eq_true, not_true_eq_false, Nat.reduceEqDiff, Nat.reduceAdd, reduceCtorEq, and_true, true_and, and_false, false_and, false_or, or_false, nI_add]
        rw [w1]
      | succ k ih =>
        intro j hj
        have nn := wp_in i hi j (by omega)
        have a1 : ¬ nI (TX (wp i + j)) = nI 32 := by rw [t32 _ (TX_v _ (by omega)).2]; exact nn
        rw [lp_next (a' := nI (wp i + (j + 1))) (by
          unfold F_8_97
          simp only [la_1000, x_tx (show wp i + j < 84 by omega), a1, gd_tt, oA_arr, px_obj_s, Option.bind_some, Option.map_some, Option.bind_none, eq_self, true_or, or_true, px_av_0, px_av_1, px_av_2, px_av_10, px_av_11, bn, wi_1, wi_2, wl_1, wl_21, wl_22, wr_1, wr_21, wr_22, Sum.elim_inl, Sum.elim_inr, ↓reduceIte, Nat.reduceLT, Nat.reduceLeDiff, not_false_eq_true, not_true_eq_false, Nat.reduceEqDiff, Nat.reduceAdd, reduceCtorEq, and_true, true_and, and_false, false_and, false_or, or_false, nI_add]
          rfl)]
        exact ih (j + 1) (by omega)
    exact key (wln i) 0 (by omega)
  -- one word
  have one : ∀ i, i < 15 → f_8_15 tT τ 0 (nI i) (nI (wp i)) (nI 0) = some (@ite _ (eqw b s q i) (Classical.propDecidable _) (.inr (nI i)) (.inl (nI (i + 1), nI (wp (i + 1))))) := by
    intro i hi
    obtain ⟨w1, w2, w3, w4, w5⟩ := wp_ok i hi
    unfold f_8_15
    have no : ∀ m, m ≤ wln i → ¬ eqw b s q i → (m < wln i ∨ ¬ s + m = q) → f_8_69 tT τ 0 (nI i) (nI (wp i)) (nI m) = some (.inl (nI (i + 1), nI (wp (i + 1)))) := by
      intro m hm hne hc
      unfold f_8_69
      have hx := x_tx (τ := τ) (show wp i + m < 84 by omega)
      by_cases hmw : m = wln i
      · subst hmw
        rw [w5] at hx
        have a2 : ¬ nI (s + wln i) = nI q := by rw [nI_eq (by omega) (by omega)]; omega
        simp only [la_1000, la_0, nI_add, hx, h6, h7, a2, gd_tt, oA_arr, px_obj_s, Option.bind_some, Option.map_some, Option.bind_none, eq_self, true_or, or_true, px_av_0, px_av_1, px_av_2, px_av_10, px_av_11, bn, wi_1, wi_2, wl_1, wl_21, wl_22, wr_1, wr_21, wr_22, Sum.elim_inl, Sum.elim_inr, ↓reduceIte, Nat.reduceLT, Nat.reduceLeDiff, not_false_eq_true, not_true_eq_false, Nat.reduceEqDiff, Nat.reduceAdd, reduceCtorEq, and_true, true_and, and_false, false_and, false_or, or_false, skp i hi]
      · have a1 : ¬ nI (TX (wp i + m)) = nI 32 := by rw [t32 _ (TX_v _ (by omega)).2]; exact wp_in i hi m (by omega)
        simp only [la_1000, nI_add, hx, a1, gd_tt, oA_arr, px_obj_s, Option.bind_some, Option.map_some, Option.bind_none, eq_self, true_or, or_true, px_av_0, px_av_1, px_av_2, px_av_10, px_av_11, bn, wi_1, wi_2, wl_1, wl_21, wl_22, wr_1, wr_21, wr_22, Sum.elim_inl, Sum.elim_inr, ↓reduceIte, Nat.reduceLT, Nat.reduceLeDiff, not_false_eq_true, not_true_eq_false, Nat.reduceEqDiff, Nat.reduceAdd, reduceCtorEq, and_true, true_and, and_false, false_and, false_or, or_false, skp i hi]
    have key : ∀ k m, m + k = wln i → (∀ j, j < m → s + j < q ∧ b (s + j) = TX (wp i + j)) → lpO (fun x : Int32 => F_8_15 tT τ 0 (nI i) (nI (wp i)) x) (nI m) = some (@ite _ (eqw b s q i) (Classical.propDecidable _) (.inr (nI i)) (.inl (nI (i + 1), nI (wp (i + 1))))) := by
      intro k
      induction k with
      | zero =>
        intro m hm hpre
        have hmw : m = wln i := by omega
        subst hmw
        have hx := x_tx (τ := τ) (show wp i + wln i < 84 by omega)
        rw [w5] at hx
        refine lp_end ?_
        unfold F_8_15
        by_cases hq2 : s + wln i = q
        · have : eqw b s q i := ⟨hq2.symm, fun j hj => (hpre j hj).2⟩
          rw [if_pos this]
          unfold f_8_69 f_8_95
          simp only [la_1000, la_0, nI_add, hx, h6, h7, hq2, gd_tt, oA_arr, px_obj_s, Option.bind_some, Option.map_some, Option.bind_none, eq_self, true_or, or_true, px_av_0, px_av_1, px_av_2, px_av_10, px_av_11, bn, wi_1, wi_2, wl_1, wl_21, wl_22, wr_1, wr_21, wr_22, Sum.elim_inl, Sum.elim_inr, ↓reduceIte, Nat.reduceLT, Nat.reduceLeDiff, not_false_eq_true, not_true_eq_false, Nat.reduceEqDiff, Nat.reduceAdd, reduceCtorEq, and_true, true_and, and_false, false_and, false_or, or_false]
        · have hne : ¬ eqw b s q i := fun h => hq2 h.1.symm
          rw [if_neg hne]
          simp only [la_1000, nI_add, hx, no (wln i) (by omega) hne (Or.inr hq2), gd_tt, oA_arr, px_obj_s, Option.bind_some, Option.map_some, Option.bind_none, eq_self, true_or, or_true, px_av_0, px_av_1, px_av_2, px_av_10, px_av_11, bn, wi_1, wi_2, wl_1, wl_21, wl_22, wr_1, wr_21, wr_22, Sum.elim_inl, Sum.elim_inr, ↓reduceIte, Nat.reduceLT, Nat.reduceLeDiff, not_false_eq_true, not_true_eq_false, Nat.reduceEqDiff, Nat.reduceAdd, reduceCtorEq, and_true, true_and, and_false, false_and, false_or, or_false]
      | succ k ih =>
        intro m hm hpre
        have hx := x_tx (τ := τ) (show wp i + m < 84 by omega)
        have a1 : ¬ nI (TX (wp i + m)) = nI 32 := by rw [t32 _ (TX_v _ (by omega)).2]; exact wp_in i hi m (by omega)
        have hpm : s + m ≤ q := by
          by_cases h0 : m = 0
          · omega
          · have := (hpre (m - 1) (by omega)).1; omega
        by_cases hq2 : q ≤ s + m
        · have hne : ¬ eqw b s q i := fun h => by have := h.1; omega
          have a2 : nI q ≤ nI (s + m) := by rw [nI_leI (by omega) (by omega)]; exact hq2
          refine lp_end ?_
          unfold F_8_15
          rw [if_neg hne]
          simp only [la_1000, la_0, nI_add, hx, h6, h7, a1, a2, no m (by omega) hne (Or.inl (by omega)), gd_tt, oA_arr, px_obj_s, Option.bind_some, Option.map_some, Option.bind_none, eq_self, true_or, or_true, px_av_0, px_av_1, px_av_2, px_av_10, px_av_11, bn, wi_1, wi_2, wl_1, wl_21, wl_22, wr_1, wr_21, wr_22, Sum.elim_inl, Sum.elim_inr, ↓reduceIte, Nat.reduceLT, Nat.reduceLeDiff, not_false_eq_true, not_true_eq_false, Nat.reduceEqDiff, Nat.reduceAdd, reduceCtorEq, and_true, true_and, and_false, false_and, false_or, or_false]
        · have a2 : ¬ nI q ≤ nI (s + m) := by rw [nI_leI (by omega) (by omega)]; exact hq2
          have c1 : vp_in (nI (s + m)) 900 := (vp_in_eq (by omega)).mpr (by omega)
          have c2 : (nI (s + m)).toNatClampNeg = s + m := nI_clamp (by omega)
          have hbm := hb2 (s + m)
          have hTX := (TX_v (wp i + m) (by omega)).2
          by_cases hc : b (s + m) = TX (wp i + m)
          · rw [lp_next (a' := nI (m + 1)) (by
              unfold F_8_15 f_8_41 f_8_63
              simp only [la_1000, la_0, la_3, rm_0_3 hR, nI_add, hx, h6, h7, a1, a2, c1, c2, hb _ (show s + m < 900 by omega), hc, gd_tt, oA_arr, px_obj_s, Option.bind_some, Option.map_some, Option.bind_none, eq_self, true_or, or_true, px_av_0, px_av_1, px_av_2, px_av_10, px_av_11, bn, wi_1, wi_2, wl_1, wl_21, wl_22, wr_1, wr_21, wr_22, Sum.elim_inl, Sum.elim_inr, ↓reduceIte, Nat.reduceLT, Nat.reduceLeDiff, not_false_eq_true, not_true_eq_false, Nat.reduceEqDiff, Nat.reduceAdd, reduceCtorEq, and_true, true_and, and_false, false_and, false_or, or_false])]
            exact ih (m + 1) (by omega) (fun j hj => by
              by_cases hjm : j = m
              · subst hjm; exact ⟨by omega, hc⟩
              · exact hpre j (by omega))
          · have hne : ¬ eqw b s q i := fun h => hc (h.2 m (by omega))
            have a3 : ¬ nI (b (s + m)) = nI (TX (wp i + m)) := by rw [nI_eq (by omega) (by omega)]; exact hc
            refine lp_end ?_
            unfold F_8_15 f_8_41
            rw [if_neg hne]
            simp only [la_1000, la_0, la_3, rm_0_3 hR, nI_add, hx, h6, h7, a1, a2, a3, c1, c2, hb _ (show s + m < 900 by omega), no m (by omega) hne (Or.inl (by omega)), gd_tt, oA_arr, px_obj_s, Option.bind_some, Option.map_some, Option.bind_none, eq_self, true_or, or_true, px_av_0, px_av_1, px_av_2, px_av_10, px_av_11, bn, wi_1, wi_2, wl_1, wl_21, wl_22, wr_1, wr_21, wr_22, Sum.elim_inl, Sum.elim_inr, ↓reduceIte, Nat.reduceLT, Nat.reduceLeDiff, not_false_eq_true, not_true_eq_false, Nat.reduceEqDiff, Nat.reduceAdd, reduceCtorEq, and_true, true_and, and_false, false_and, false_or, or_false]
    exact key (wln i) 0 (by omega) (fun j hj => by omega)
  have out : ∀ k i, i + k = 15 → (∀ j, j < i → ¬ eqw b s q j) → ∃ κ, lpO (fun x : Int32 × Int32 => F_8_4 tT τ 0 x.1 x.2) (nI i, nI (wp i)) = some (nI κ) ∧ wdp b s q κ := by
    intro k
    induction k with
    | zero =>
      intro i hi hno
      have : i = 15 := by omega
      subst this
      refine ⟨15, lp_end ?_, Or.inr ⟨rfl, hno⟩⟩
      have a1 : nI 84 ≤ nI (wp 15) := by decide
      dsimp only
      unfold F_8_4
      simp only [la_1000, ln, a1, gd_tt, oA_arr, px_obj_s, Option.bind_some, Option.map_some, Option.bind_none, eq_self, true_or, or_true, px_av_0, px_av_1, px_av_2, px_av_10, px_av_11, bn, wi_1, wi_2, wl_1, wl_21, wl_22, wr_1, wr_21, wr_22, Sum.elim_inl, Sum.elim_inr, ↓reduceIte, Nat.reduceLT, Nat.reduceLeDiff, not_false_eq_true, not_true_eq_false, Nat.reduceEqDiff, Nat.reduceAdd, reduceCtorEq, and_true, true_and, and_false, false_and, false_or, or_false]
    | succ k ih =>
      intro i hi hno
      obtain ⟨w1, w2, w3, w4, w5⟩ := wp_ok i (by omega)
      have a1 : ¬ nI 84 ≤ nI (wp i) := by rw [nI_leI (by omega) (by omega)]; omega
      have o1 := one i (by omega)
      by_cases h : eqw b s q i
      · rw [if_pos h] at o1
        refine ⟨i, lp_end ?_, Or.inl ⟨by omega, h⟩⟩
        dsimp only
        unfold F_8_4
        simp only [la_1000, ln, a1, o1, gd_tt, oA_arr, px_obj_s, Option.bind_some, Option.map_some, Option.bind_none, eq_self, true_or, or_true, px_av_0, px_av_1, px_av_2, px_av_10, px_av_11, bn, wi_1, wi_2, wl_1, wl_21, wl_22, wr_1, wr_21, wr_22, Sum.elim_inl, Sum.elim_inr, ↓reduceIte, Nat.reduceLT, Nat.reduceLeDiff, not_false_eq_true, not_true_eq_false, Nat.reduceEqDiff, Nat.reduceAdd, reduceCtorEq, and_true, true_and, and_false, false_and, false_or, or_false]
      · rw [if_neg h] at o1
        obtain ⟨κ, q1, q2⟩ := ih (i + 1) (by omega) (fun j hj => by
          by_cases hji : j = i
          · subst hji; exact h
          · exact hno j (by omega))
        refine ⟨κ, ?_, q2⟩
        rw [lp_next (a' := (nI (i + 1), nI (wp (i + 1)))) (by
          dsimp only
          unfold F_8_4
          simp only [la_1000, ln, a1, o1, gd_tt, oA_arr, px_obj_s, Option.bind_some, Option.map_some, Option.bind_none, eq_self, true_or, or_true, px_av_0, px_av_1, px_av_2, px_av_10, px_av_11, bn, wi_1, wi_2, wl_1, wl_21, wl_22, wr_1, wr_21, wr_22, Sum.elim_inl, Sum.elim_inr, ↓reduceIte, Nat.reduceLT, Nat.reduceLeDiff, not_false_eq_true, not_true_eq_false, Nat.reduceEqDiff, Nat.reduceAdd, reduceCtorEq, and_true, true_and, and_false, false_and, false_or, or_false])]
        exact q1
  obtain ⟨κ, q1, q2⟩ := out 15 0 (by omega) (fun j hj => by omega)
  exact ⟨κ, q1, q2⟩
end
