/-! the model's next token, second half -/
section
variable {σ τ : px_M} {b : Nat → Nat} {e p s q : Nat}
def nxo (τ : px_M) (b : Nat → Nat) (e p : Nat) (o : Option px_M) : Prop := ∃ s q κ v υ, o = some υ ∧ tkn b e p s q κ v ∧ fr NX τ υ ∧ υ.1 0 6 = nI s ∧ υ.1 0 7 = nI q ∧ υ.1 0 9 = nI κ ∧ (κ = 16 → υ.1 0 10 = nI v)
theorem NX6 : NX 0 6 = true := rfl
theorem NX7 : NX 0 7 = true := rfl
theorem NX9 : NX 0 9 = true := rfl
theorem NX10 : NX 0 10 = true := rfl
theorem w_o {ρ : px_M} {j k : Nat} {x : Int32} (h : ¬ k = j) : (px_wi ρ 0 j x).1 0 k = ρ.1 0 k := by
  show px_up ρ.1 0 j x 0 k = _
  rw [up_s, if_neg h]
theorem n_let (hps : p ≤ s) (hse : s < e) (hbk : ∀ i, p ≤ i → i < s → blk b i) (hnb : ¬ blk b s) (hl : ltr b s) : ∀ k q, q + k = e → s < q → (∀ i, s ≤ i → i < q → ltr b i) → ∀ ρ, tp ρ b e → fr NX τ ρ → ρ.1 0 6 = nI s → ρ.1 0 7 = nI q → nxo τ b e p (f_9_89 tT 0 ρ) := by
  intro k
  induction k with
  | zero =>
    intro q hq hsq hin ρ ht hf h6 h7
    have hqe : q = e := by omega
    subst hqe
    obtain ⟨κ, k1, k2⟩ := e_key ht h6 h7 hsq (Nat.le_refl _)
    have he := ht.2.2.1
    have sE := n_see ht (p := q) (by omega)
    rw [if_neg (by omega)] at sE
    refine ⟨s, q, κ, 0, px_wi ρ 0 9 (nI κ), ?_, ⟨⟨hps, by omega, hbk⟩, Or.inr ⟨hse, hnb, Or.inl ⟨hl, ⟨hsq, Nat.le_refl _, hin, Or.inl rfl⟩, k2, rfl⟩⟩⟩, fr_wi hf _ NX9, ?_, ?_, wi_s _ _ _ _, fun h => ?_⟩
    · unfold f_9_89
      refine lp_end ?_
      unfold F_9_89 f_9_116
      simp only [la_0, h7, sE, (n_m1 (τ := ρ)).1, k1, gd_tt, oA_arr, px_obj_s, Option.bind_some, Option.map_some, Option.bind_none, eq_self, true_or, or_true, px_av_0, px_av_1, px_av_2, px_av_10, px_av_11, bn, wi_1, wi_2, wl_1, wl_21, wl_22, wr_1, wr_21, wr_22, Sum.elim_inl, Sum.elim_inr, ↓reduceIte, Nat.reduceLT, Nat.reduceLeDiff, not_false_eq_true, not_true_eq_false, Nat.reduceEqDiff, Nat.reduceAdd, reduceCtorEq, and_true, true_and, and_false, false_and, false_or, or_false]
    · rw [w_o (by decide)]; exact h6
    · rw [w_o (by decide)]; exact h7
    · rcases k2 with ⟨z, -⟩ | ⟨z, -⟩ <;> omega
  | succ k ih =>
    intro q hq hsq hin ρ ht hf h6 h7
    have he := ht.2.2.1
    have hb := ht.2.2.2.2 q
    have sE := n_see ht (p := q) (by omega)
    rw [if_pos (by omega)] at sE
    have sm := n_small (τ := ρ) (b q) hb
    by_cases hlq : ltr b q
    · rw [decide_eq_true (show 97 ≤ b q ∧ b q ≤ 122 from hlq), mb_t1] at sm
      have w1 : fr NX ρ (px_wi ρ 0 7 (nI (q + 1))) := fr_wi (fr_rf _ _) _ NX7
      have := ih (q + 1) (by omega) (by omega) (fun i h1 h2 => by
        by_cases hiq : i = q
        · subst hiq; exact hlq
        · exact hin i h1 (by omega)) _ (tp_NX w1 ht) (fr_tr hf w1) (by rw [w_o (by decide)]; exact h6) (wi_s _ _ _ _)
      unfold f_9_89 at this ⊢
      rw [lp_next (a' := px_wi ρ 0 7 (nI (q + 1))) (by
        unfold F_9_89 f_9_103
        simp only [la_0, h7, sE, sm, n10, nI_add, gd_tt, oA_arr, px_obj_s, Option.bind_some, Option.map_some, Option.bind_none, eq_self, true_or, or_true, px_av_0, px_av_1, px_av_2, px_av_10, px_av_11, bn, wi_1, wi_2, wl_1, wl_21, wl_22, wr_1, wr_21, wr_22, Sum.elim_inl, Sum.elim_inr, ↓reduceIte, Nat.reduceLT, Nat.reduceLeDiff, not_false_eq_true, not_true_eq_false, Nat.reduceEqDiff, Nat.reduceAdd, reduceCtorEq, and_true, true_and, and_false, false_and, false_or, or_false])]
      exact this
    · rw [decide_eq_false (show ¬ (97 ≤ b q ∧ b q ≤ 122) from hlq), mb_f0] at sm
      obtain ⟨κ, k1, k2⟩ := e_key ht h6 h7 hsq (by omega)
      refine ⟨s, q, κ, 0, px_wi ρ 0 9 (nI κ), ?_, ⟨⟨hps, by omega, hbk⟩, Or.inr ⟨hse, hnb, Or.inl ⟨hl, ⟨hsq, by omega, hin, Or.inr hlq⟩, k2, rfl⟩⟩⟩, fr_wi hf _ NX9, ?_, ?_, wi_s _ _ _ _, fun h => ?_⟩
      · unfold f_9_89
        refine lp_end ?_
        unfold F_9_89 f_9_116
        simp only [la_0, h7, sE, sm, k1, gd_tt, oA_arr, px_obj_s, Option.bind_some, Option.map_some, Option.bind_none, eq_self, true_or, or_true, px_av_0, px_av_1, px_av_2, px_av_10, px_av_11, bn, wi_1, wi_2, wl_1, wl_21, wl_22, wr_1, wr_21, wr_22, Sum.elim_inl, Sum.elim_inr, ↓reduceIte, Nat.reduceLT, Nat.reduceLeDiff, not_false_eq_true, not_true_eq_false, Nat.reduceEqDiff, Nat.reduceAdd, reduceCtorEq, and_true, true_and, and_false, false_and, false_or, or_false]
      · rw [w_o (by decide)]; exact h6
      · rw [w_o (by decide)]; exact h7
      · rcases k2 with ⟨z, -⟩ | ⟨z, -⟩ <;> omega
theorem n_dig (hps : p ≤ s) (hse : s < e) (hbk : ∀ i, p ≤ i → i < s → blk b i) (hnb : ¬ blk b s) (hd : dgt b s) : ∀ k q, q + k = e → s ≤ q → (∀ i, s ≤ i → i < q → dgt b i) → ∀ ρ, tp ρ b e → fr NX τ ρ → ρ.1 0 6 = nI s → ρ.1 0 7 = nI q → ρ.1 0 10 = nI (vl b s (min 3 (q - s))) → nxo τ b e p (f_9_146 tT 0 ρ) := by
  have fin : ∀ q, s < q → q ≤ e → (∀ i, s ≤ i → i < q → dgt b i) → (q = e ∨ ¬ dgt b q) → ∀ ρ, tp ρ b e → fr NX τ ρ → ρ.1 0 6 = nI s → ρ.1 0 7 = nI q → ρ.1 0 10 = nI (vl b s (min 3 (q - s))) → nxo τ b e p (f_9_209 tT ρ 0) := by
    intro q hsq hqe hin hen ρ ht hf h6 h7 h10
    have he := ht.2.2.1
    have hr : run (dgt b) e s q := ⟨hsq, hqe, hin, hen⟩
    by_cases h3 : q ≤ s + 3
    · have a1 : nI (q - s) ≤ nI 3 := by rw [nI_leI (by omega) (by omega)]; omega
      refine ⟨s, q, 16, vl b s (q - s), px_wi ρ 0 9 (nI 16), ?_, ⟨⟨hps, by omega, hbk⟩, Or.inr ⟨hse, hnb, Or.inr (Or.inl ⟨hd, hr, Or.inl ⟨h3, rfl, rfl⟩⟩)⟩⟩, fr_wi hf _ NX9, ?_, ?_, wi_s _ _ _ _, fun _ => ?_⟩
      · unfold f_9_209
        simp only [la_0, h6, h7, ni_subL (show s ≤ q by omega), a1, gd_tt, oA_arr, px_obj_s, Option.bind_some, Option.map_some, Option.bind_none, eq_self, true_or, or_true, px_av_0, px_av_1, px_av_2, px_av_10, px_av_11, bn, wi_1, wi_2, wl_1, wl_21, wl_22, wr_1, wr_21, wr_22, Sum.elim_inl, Sum.elim_inr, ↓reduceIte, Nat.reduceLT, Nat.reduceLeDiff, not_false_eq_true, not_true_eq_false, Nat.reduceEqDiff, Nat.reduceAdd, reduceCtorEq, and_true, true_and, and_false, false_and, false_or, or_false]
      · rw [w_o (by decide)]; exact h6
      · rw [w_o (by decide)]; exact h7
      · rw [w_o (by decide), h10, show min 3 (q - s) = q - s by omega]
    · have a1 : ¬ nI (q - s) ≤ nI 3 := by rw [nI_leI (by omega) (by omega)]; omega
      refine ⟨s, q, 18, 0, px_wi ρ 0 9 (nI 18), ?_, ⟨⟨hps, by omega, hbk⟩, Or.inr ⟨hse, hnb, Or.inr (Or.inl ⟨hd, hr, Or.inr ⟨by omega, rfl, rfl⟩⟩)⟩⟩, fr_wi hf _ NX9, ?_, ?_, wi_s _ _ _ _, fun h => absurd h (by decide)⟩
      · unfold f_9_209
        simp only [la_0, h6, h7, ni_subL (show s ≤ q by omega), a1, gd_tt, oA_arr, px_obj_s, Option.bind_some, Option.map_some, Option.bind_none, eq_self, true_or, or_true, px_av_0, px_av_1, px_av_2, px_av_10, px_av_11, bn, wi_1, wi_2, wl_1, wl_21, wl_22, wr_1, wr_21, wr_22, Sum.elim_inl, Sum.elim_inr, ↓reduceIte, Nat.reduceLT, Nat.reduceLeDiff, not_false_eq_true, not_true_eq_false, Nat.reduceEqDiff, Nat.reduceAdd, reduceCtorEq, and_true, true_and, and_false, false_and, false_or, or_false]
      · rw [w_o (by decide)]; exact h6
      · rw [w_o (by decide)]; exact h7
  intro k
  induction k with
  | zero =>
    intro q hq hsq hin ρ ht hf h6 h7 h10
    have he := ht.2.2.1
    have sE := n_see ht (p := q) (by omega)
    rw [if_neg (by omega)] at sE
    obtain ⟨s', q', κ, v, υ, y1, y2⟩ := fin q (by omega) (by omega) hin (Or.inl (by omega)) ρ ht hf h6 h7 h10
    refine ⟨s', q', κ, v, υ, ?_, y2⟩
    unfold f_9_146
    refine lp_end ?_
    unfold F_9_146
    simp only [la_0, h7, sE, (n_m1 (τ := ρ)).2, y1, gd_tt, oA_arr, px_obj_s, Option.bind_some, Option.map_some, Option.bind_none, eq_self, true_or, or_true, px_av_0, px_av_1, px_av_2, px_av_10, px_av_11, bn, wi_1, wi_2, wl_1, wl_21, wl_22, wr_1, wr_21, wr_22, Sum.elim_inl, Sum.elim_inr, ↓reduceIte, Nat.reduceLT, Nat.reduceLeDiff, not_false_eq_true, not_true_eq_false, Nat.reduceEqDiff, Nat.reduceAdd, reduceCtorEq, and_true, true_and, and_false, false_and, false_or, or_false]
  | succ k ih =>
    intro q hq hsq hin ρ ht hf h6 h7 h10
    have he := ht.2.2.1
    have hb := ht.2.2.2.2 q
    have sE := n_see ht (p := q) (by omega)
    rw [if_pos (by omega)] at sE
    have sm := n_digit (τ := ρ) (b q) hb
    by_cases hdq : dgt b q
    · rw [decide_eq_true (show 48 ≤ b q ∧ b q ≤ 57 from hdq), mb_t1] at sm
      have hin2 : ∀ i, s ≤ i → i < q + 1 → dgt b i := fun i h1 h2 => by
        by_cases hiq : i = q
        · subst hiq; exact hdq
        · exact hin i h1 (by omega)
      by_cases h3 : 3 ≤ q - s
      · have a1 : nI 3 ≤ nI (q - s) := by rw [nI_leI (by omega) (by omega)]; omega
        have w1 : fr NX ρ (px_wi ρ 0 7 (nI (q + 1))) := fr_wi (fr_rf _ _) _ NX7
        have := ih (q + 1) (by omega) (by omega) hin2 _ (tp_NX w1 ht) (fr_tr hf w1) (by rw [w_o (by decide)]; exact h6) (wi_s _ _ _ _) (by rw [w_o (by decide), h10, show min 3 (q + 1 - s) = min 3 (q - s) by omega])
        unfold f_9_146 at this ⊢
        rw [lp_next (a' := px_wi ρ 0 7 (nI (q + 1))) (by
          unfold F_9_146 f_9_160 f_9_196
          simp only [la_0, h6, h7, sE, sm, n10, ni_subL (show s ≤ q by omega), a1, nI_add, gd_tt, oA_arr, px_obj_s, Option.bind_some, Option.map_some, Option.bind_none, eq_self, true_or, or_true, px_av_0, px_av_1, px_av_2, px_av_10, px_av_11, bn, wi_1, wi_2, wl_1, wl_21, wl_22, wr_1, wr_21, wr_22, Sum.elim_inl, Sum.elim_inr, ↓reduceIte, Nat.reduceLT, Nat.reduceLeDiff, not_false_eq_true, not_true_eq_false, Nat.reduceEqDiff, Nat.reduceAdd, reduceCtorEq, and_true, true_and, and_false, false_and, false_or, or_false])]
        exact this
      · have a1 : ¬ nI 3 ≤ nI (q - s) := by rw [nI_leI (by omega) (by omega)]; omega
        have hv := vl_lt (b := b) (s := s) (j := q - s) (fun i hi => hin (s + i) (by omega) (by omega))
        have hp : 10 ^ (q - s) ≤ 10 ^ 3 := Nat.pow_le_pow_right (by omega) (by omega)
        have hvS : vl b s (q + 1 - s) = 10 * vl b s (q - s) + (b q - 48) := by
          rw [show q + 1 - s = (q - s) + 1 by omega]
          simp only [vl]
          rw [show s + (q - s) = q by omega]
        unfold dgt at hdq
        have ar : nI 10 * nI (vl b s (q - s)) + nI (b q) - nI 48 = nI (vl b s (q + 1 - s)) := by
          rw [pk_mul, nI_add, ni_subL (show 48 ≤ 10 * vl b s (q - s) + b q by omega), hvS]
          congr 1; omega
        rw [show min 3 (q - s) = q - s by omega] at h10
        have w1 : fr NX ρ (px_wi (px_wi ρ 0 10 (nI (vl b s (q + 1 - s)))) 0 7 (nI (q + 1))) := fr_wi (fr_wi (fr_rf _ _) _ NX10) _ NX7
        have := ih (q + 1) (by omega) (by omega) hin2 _ (tp_NX w1 ht) (fr_tr hf w1) (by rw [w_o (by decide), w_o (by decide)]; exact h6) (wi_s _ _ _ _) (by
          rw [w_o (by decide), show min 3 (q + 1 - s) = q + 1 - s by omega]; exact wi_s _ _ _ _)
        unfold f_9_146 at this ⊢
        rw [lp_next (a' := px_wi (px_wi ρ 0 10 (nI (vl b s (q + 1 - s)))) 0 7 (nI (q + 1))) (by
          unfold F_9_146 f_9_160 f_9_196
          have w7 : (px_wi ρ 0 10 (nI (vl b s (q + 1 - s)))).1 0 7 = nI q := by rw [w_o (by decide)]; exact h7
          simp only [la_0, h6, h7, h10, sE, sm, n10, ni_subL (show s ≤ q by omega), a1, ar, gd_tt, oA_arr, px_obj_s, Option.bind_some, Option.map_some, Option.bind_none, eq_self, true_or, or_true, px_av_0, px_av_1, px_av_2, px_av_10, px_av_11, bn, wi_1, wi_2, wl_1, wl_21, wl_22, wr_1, wr_21, wr_22, Sum.elim_inl, Sum.elim_inr, ↓reduceIte, Nat.reduceLT, Nat.reduceLeDiff, not_false_eq_true, not_true_eq_false, Nat.reduceEqDiff, Nat.reduceAdd, reduceCtorEq, and_true, true_and, and_false, false_and, false_or, or_false]
          rw [show (px_up ρ.1 0 10 (nI (vl b s (q + 1 - s)))) 0 7 = nI q from w7, nI_add])]
        exact this
    · rw [decide_eq_false (show ¬ (48 ≤ b q ∧ b q ≤ 57) from hdq), mb_f0] at sm
      have hsq2 : s < q := by
        rcases Nat.lt_or_eq_of_le hsq with h | h
        · exact h
        · subst h; exact absurd hd hdq
      obtain ⟨s', q', κ, v, υ, y1, y2⟩ := fin q hsq2 (by omega) hin (Or.inr hdq) ρ ht hf h6 h7 h10
      refine ⟨s', q', κ, v, υ, ?_, y2⟩
      unfold f_9_146
      refine lp_end ?_
      unfold F_9_146
      simp only [la_0, h7, sE, sm, y1, gd_tt, oA_arr, px_obj_s, Option.bind_some, Option.map_some, Option.bind_none, eq_self, true_or, or_true, px_av_0, px_av_1, px_av_2, px_av_10, px_av_11, bn, wi_1, wi_2, wl_1, wl_21, wl_22, wr_1, wr_21, wr_22, Sum.elim_inl, Sum.elim_inr, ↓reduceIte, Nat.reduceLT, Nat.reduceLeDiff, not_false_eq_true, not_true_eq_false, Nat.reduceEqDiff, Nat.reduceAdd, reduceCtorEq, and_true, true_and, and_false, false_and, false_or, or_false]
/-- a sign, or none -/
theorem n_sig (hps : p ≤ s) (hse : s < e) (hbk : ∀ i, p ≤ i → i < s → blk b i) (hnb : ¬ blk b s) (hl : ¬ ltr b s) (hd : ¬ dgt b s) {ρ : px_M} (ht : tp ρ b e) (hf : fr NX τ ρ) (h6 : ρ.1 0 6 = nI s) (h7 : ρ.1 0 7 = nI s) : nxo τ b e p (f_9_236 tT ρ 0) := by
  have he := ht.2.2.1
  have hb := ht.2.2.2.2 s
  have ln : ∀ χ : px_M, f_23000 tT χ 1001 = some (nI 12) := fun χ => x_len la_1001 la_1101 (by omega)
  have ch : ∀ (χ : px_M) j, j < 12 → f_23002 tT χ 1001 (nI j) = some (nI (SGf j)) := fun χ j hj => x_char la_1001 la_1101 (by omega) hj (SG_v j hj).1 (SG_v j hj).2.2.1
  obtain ⟨ω, hω⟩ : ∃ ω, px_wi (px_wi ρ 0 7 (nI (s + 1))) 0 9 (nI 18) = ω := ⟨_, rfl⟩
  have w1 : fr NX ρ ω := by rw [← hω]; exact fr_wi (fr_wi (fr_rf _ _) _ NX7) _ NX9
  have lp : ∃ υ, f_9_254 tT 0 (nI 0) ω = some υ ∧ ∃ κ, fr NX ρ υ ∧ υ.1 0 6 = nI s ∧ υ.1 0 7 = nI (s + 1) ∧ υ.1 0 9 = nI κ ∧ sgp (b s) κ := by
    unfold f_9_254
    refine lp_for (F := fun x : Int32 × px_M => F_9_254 tT 0 x.1 x.2) (fun j x => ∃ χ κ, x = (nI j, χ) ∧ fr NX ρ χ ∧ χ.1 0 6 = nI s ∧ χ.1 0 7 = nI (s + 1) ∧ χ.1 0 9 = nI κ ∧ ((∃ i, i < j ∧ b s = SGf i ∧ κ = 20 + i) ∨ (κ = 18 ∧ ∀ i, i < j → b s ≠ SGf i))) _ 12 (fun j x hj hI => ?_) (fun x hI => ?_) 0 (nI 0, ω) (by omega) ⟨ω, 18, rfl, w1, ?_, ?_, ?_, Or.inr ⟨rfl, fun i hi => by omega⟩⟩
    · obtain ⟨χ, κ, rfl, g1, g2, g3, g4, g5⟩ := hI
      have a1 : ¬ nI 12 ≤ nI j := by rw [nI_leI (by omega) (by omega)]; omega
      have sE := n_see (tp_NX g1 ht) (p := s) (by omega)
      rw [if_pos hse] at sE
      have hSG := (SG_v j hj).2.2.1
      by_cases hq : b s = SGf j
      · refine ⟨(nI (j + 1), px_wi χ 0 9 (nI (20 + j))), ?_, _, 20 + j, rfl, fr_wi g1 _ NX9, ?_, ?_, wi_s _ _ _ _, Or.inl ⟨j, by omega, hq, rfl⟩⟩
        · dsimp only
          unfold F_9_254 f_9_280 f_9_288
          simp only [la_0, la_1001, ln, a1, g2, sE, ch χ j hj, hq, nI_add, gd_tt, oA_arr, px_obj_s, Option.bind_some, Option.map_some, Option.bind_none, eq_self, true_or, or_true, px_av_0, px_av_1, px_av_2, px_av_10, px_av_11, bn, wi_1, wi_2, wl_1, wl_21, wl_22, wr_1, wr_21, wr_22, Sum.elim_inl, Sum.elim_inr, ↓reduceIte, Nat.reduceLT, Nat.reduceLeDiff, not_false_eq_true, not_true_eq_false, Nat.reduceEqDiff, Nat.reduceAdd, reduceCtorEq, and_true, true_and, and_false, false_and, false_or, or_false]
        · rw [w_o (by decide)]; exact g2
        · rw [w_o (by decide)]; exact g3
      · have a2 : ¬ nI (b s) = nI (SGf j) := by rw [nI_eq (by omega) (by omega)]; exact hq
        refine ⟨(nI (j + 1), χ), ?_, χ, κ, rfl, g1, g2, g3, g4, ?_⟩
        · dsimp only
          unfold F_9_254 f_9_288
          simp only [la_0, la_1001, ln, a1, g2, sE, ch χ j hj, a2, nI_add, gd_tt, oA_arr, px_obj_s, Option.bind_some, Option.map_some, Option.bind_none, eq_self, true_or, or_true, px_av_0, px_av_1, px_av_2, px_av_10, px_av_11, bn, wi_1, wi_2, wl_1, wl_21, wl_22, wr_1, wr_21, wr_22, Sum.elim_inl, Sum.elim_inr, ↓reduceIte, Nat.reduceLT, Nat.reduceLeDiff, not_false_eq_true, not_true_eq_false, Nat.reduceEqDiff, Nat.reduceAdd, reduceCtorEq, and_true, true_and, and_false, false_and, false_or, or_false]
        · rcases g5 with ⟨i, h1, h2⟩ | ⟨h1, h2⟩
          · exact Or.inl ⟨i, by omega, h2⟩
          · exact Or.inr ⟨h1, fun i hi => by
              by_cases hij : i = j
              · subst hij; exact hq
              · exact h2 i (by omega)⟩
    · obtain ⟨χ, κ, rfl, g1, g2, g3, g4, g5⟩ := hI
      have a1 : nI 12 ≤ nI 12 := by decide
      refine ⟨χ, ?_, κ, g1, g2, g3, g4, g5⟩
      dsimp only
      unfold F_9_254
      simp only [la_1001, ln, a1, gd_tt, oA_arr, px_obj_s, Option.bind_some, Option.map_some, Option.bind_none, eq_self, true_or, or_true, px_av_0, px_av_1, px_av_2, px_av_10, px_av_11, bn, wi_1, wi_2, wl_1, wl_21, wl_22, wr_1, wr_21, wr_22, Sum.elim_inl, Sum.elim_inr, ↓reduceIte, Nat.reduceLT, Nat.reduceLeDiff, not_false_eq_true, not_true_eq_false, Nat.reduceEqDiff, Nat.reduceAdd, reduceCtorEq, and_true, true_and, and_false, false_and, false_or, or_false]
    · rw [← hω, w_o (by decide), w_o (by decide)]; exact h6
    · rw [← hω, w_o (by decide)]; exact wi_s _ _ _ _
    · rw [← hω]; exact wi_s _ _ _ _
  obtain ⟨υ, y1, κ, y2, y3, y4, y5, y6⟩ := lp
  refine ⟨s, s + 1, κ, 0, υ, ?_, ⟨⟨hps, by omega, hbk⟩, Or.inr ⟨hse, hnb, Or.inr (Or.inr ⟨hl, hd, rfl, y6, rfl⟩)⟩⟩, fr_tr hf y2, y3, y4, y5, fun h => ?_⟩
  · unfold f_9_236
    simp only [la_0, h7, nI_add, hω, y1, gd_tt, oA_arr, px_obj_s, Option.bind_some, Option.map_some, Option.bind_none, eq_self, true_or, or_true, px_av_0, px_av_1, px_av_2, px_av_10, px_av_11, bn, wi_1, wi_2, wl_1, wl_21, wl_22, wr_1, wr_21, wr_22, Sum.elim_inl, Sum.elim_inr, ↓reduceIte, Nat.reduceLT, Nat.reduceLeDiff, not_false_eq_true, not_true_eq_false, Nat.reduceEqDiff, Nat.reduceAdd, reduceCtorEq, and_true, true_and, and_false, false_and, false_or, or_false]
  · rcases y6 with ⟨i, -, -, z⟩ | ⟨z, -⟩ <;> omega
theorem e_token (ht : tp τ b e) (h7 : τ.1 0 7 = nI p) (hp : p ≤ e) : nxo τ b e p (f_9 tT τ 0) := by
  have he := ht.2.2.1
  obtain ⟨ω, hω⟩ : ∃ ω, px_wi τ 0 6 (nI p) = ω := ⟨_, rfl⟩
  have w1 : fr NX τ ω := by rw [← hω]; exact fr_wi (fr_rf _ _) _ NX6
  suffices key : ∀ k s, s + k = e → p ≤ s → (∀ i, p ≤ i → i < s → blk b i) → ∀ ρ, fr NX τ ρ → ρ.1 0 6 = nI s → nxo τ b e p (f_9_8 tT 0 ρ) by
    have := key (e - p) p (by omega) (Nat.le_refl _) (fun i h1 h2 => by omega) ω w1 (by rw [← hω]; exact wi_s _ _ _ _)
    obtain ⟨s', q', κ, v, υ, y1, y2⟩ := this
    refine ⟨s', q', κ, v, υ, ?_, y2⟩
    unfold f_9
    simp only [la_0, h7, hω, y1, gd_tt, oA_arr, px_obj_s, Option.bind_some, Option.map_some, Option.bind_none, eq_self, true_or, or_true, px_av_0, px_av_1, px_av_2, px_av_10, px_av_11, bn, wi_1, wi_2, wl_1, wl_21, wl_22, wr_1, wr_21, wr_22, Sum.elim_inl, Sum.elim_inr, ↓reduceIte, Nat.reduceLT, Nat.reduceLeDiff, not_false_eq_true, not_true_eq_false, Nat.reduceEqDiff, Nat.reduceAdd, reduceCtorEq, and_true, true_and, and_false, false_and, false_or, or_false]
  have stop : ∀ s, s ≤ e → p ≤ s → (∀ i, p ≤ i → i < s → blk b i) → (s < e → ¬ blk b s) → ∀ ρ, fr NX τ ρ → ρ.1 0 6 = nI s → nxo τ b e p (f_9_47 tT ρ 0) := by
    intro s hse hps hbk hnb ρ hf h6
    obtain ⟨χ, hχ⟩ : ∃ χ, px_wi ρ 0 7 (nI s) = χ := ⟨_, rfl⟩
    have w2 : fr NX τ χ := by rw [← hχ]; exact fr_wi hf _ NX7
    have htχ := tp_NX w2 ht
    have k6 : χ.1 0 6 = nI s := by rw [← hχ, w_o (by decide)]; exact h6
    have k7 : χ.1 0 7 = nI s := by rw [← hχ]; exact wi_s _ _ _ _
    have k8 := htχ.2.1
    by_cases hlt : s < e
    · have a1 : nI s < nI e := by rw [nI_ltI (by omega) (by omega)]; exact hlt
      have sE := n_see htχ (p := s) (by omega)
      rw [if_pos hlt] at sE
      have hb := htχ.2.2.2.2 s
      have sm := n_small (τ := χ) (b s) hb
      have dg := n_digit (τ := χ) (b s) hb
      by_cases hl : ltr b s
      · rw [decide_eq_true (show 97 ≤ b s ∧ b s ≤ 122 from hl), mb_t1] at sm
        -- the first letter is read again
        have first : nxo τ b e p (f_9_89 tT 0 χ) := by
          have w3 : fr NX χ (px_wi χ 0 7 (nI (s + 1))) := fr_wi (fr_rf _ _) _ NX7
          have := n_let (τ := τ) (b := b) (e := e) (p := p) (s := s) hps hlt hbk (hnb hlt) hl (e - (s + 1)) (s + 1) (by omega) (by omega) (fun i h1 h2 => by
            have : i = s := by omega
            subst this; exact hl) _ (tp_NX w3 htχ) (fr_tr w2 w3) (by rw [w_o (by decide)]; exact k6) (wi_s _ _ _ _)
          unfold f_9_89 at this ⊢
          rw [lp_next (a' := px_wi χ 0 7 (nI (s + 1))) (by
            unfold F_9_89 f_9_103
            simp only [la_0, k7, sE, sm, n10, nI_add, gd_tt, oA_arr, px_obj_s, Option.bind_some, Option.map_some, Option.bind_none, eq_self, true_or, or_true, px_av_0, px_av_1, px_av_2, px_av_10, px_av_11, bn, wi_1, wi_2, wl_1, wl_21, wl_22, wr_1, wr_21, wr_22, Sum.elim_inl, Sum.elim_inr, ↓reduceIte, Nat.reduceLT, Nat.reduceLeDiff, not_false_eq_true, not_true_eq_false, Nat.reduceEqDiff, Nat.reduceAdd, reduceCtorEq, and_true, true_and, and_false, false_and, false_or, or_false])]
          exact this
        obtain ⟨s', q', κ, v, υ, y1, y2⟩ := first
        refine ⟨s', q', κ, v, υ, ?_, y2⟩
        unfold f_9_47
        rw [h6]
        simp only [hχ]
        simp only [la_0, k6, k8, a1, sE, sm, n10, y1, gd_tt, oA_arr, px_obj_s, Option.bind_some, Option.map_some, Option.bind_none, eq_self, true_or, or_true, px_av_0, px_av_1, px_av_2, px_av_10, px_av_11, bn, wi_1, wi_2, wl_1, wl_21, wl_22, wr_1, wr_21, wr_22, Sum.elim_inl, Sum.elim_inr, ↓reduceIte, Nat.reduceLT, Nat.reduceLeDiff, not_false_eq_true, not_true_eq_false, Nat.reduceEqDiff, Nat.reduceAdd, reduceCtorEq, and_true, true_and, and_false, false_and, false_or, or_false]
      · rw [decide_eq_false (show ¬ (97 ≤ b s ∧ b s ≤ 122) from hl), mb_f0] at sm
        by_cases hd : dgt b s
        · rw [decide_eq_true (show 48 ≤ b s ∧ b s ≤ 57 from hd), mb_t1] at dg
          have w3 : fr NX χ (px_wi χ 0 10 (nI 0)) := fr_wi (fr_rf _ _) _ NX10
          obtain ⟨s', q', κ, v, υ, y1, y2⟩ := n_dig (τ := τ) (b := b) (e := e) (p := p) (s := s) hps hlt hbk (hnb hlt) hd (e - s) s (by omega) (Nat.le_refl _) (fun i h1 h2 => by omega) _ (tp_NX w3 htχ) (fr_tr w2 w3) (by rw [w_o (by decide)]; exact k6) (by rw [w_o (by decide)]; exact k7) (by
            rw [show min 3 (s - s) = 0 by omega]; exact wi_s _ _ _ _)
          refine ⟨s', q', κ, v, υ, ?_, y2⟩
          unfold f_9_47 f_9_127 f_9_141
          rw [h6]
          simp only [hχ]
          simp only [la_0, k6, k8, a1, sE, sm, dg, n10, y1, gd_tt, oA_arr, px_obj_s, Option.bind_some, Option.map_some, Option.bind_none, eq_self, true_or, or_true, px_av_0, px_av_1, px_av_2, px_av_10, px_av_11, bn, wi_1, wi_2, wl_1, wl_21, wl_22, wr_1, wr_21, wr_22, Sum.elim_inl, Sum.elim_inr, ↓reduceIte, Nat.reduceLT, Nat.reduceLeDiff, not_false_eq_true, not_true_eq_false, Nat.reduceEqDiff, Nat.reduceAdd, reduceCtorEq, and_true, true_and, and_false, false_and, false_or, or_false]
        · rw [decide_eq_false (show ¬ (48 ≤ b s ∧ b s ≤ 57) from hd), mb_f0] at dg
          obtain ⟨s', q', κ, v, υ, y1, y2⟩ := n_sig (τ := τ) (b := b) (e := e) (p := p) (s := s) hps hlt hbk (hnb hlt) hl hd htχ w2 k6 k7
          refine ⟨s', q', κ, v, υ, ?_, y2⟩
          unfold f_9_47 f_9_127
          rw [h6]
          simp only [hχ]
          simp only [la_0, k6, k8, a1, sE, sm, dg, y1, gd_tt, oA_arr, px_obj_s, Option.bind_some, Option.map_some, Option.bind_none, eq_self, true_or, or_true, px_av_0, px_av_1, px_av_2, px_av_10, px_av_11, bn, wi_1, wi_2, wl_1, wl_21, wl_22, wr_1, wr_21, wr_22, Sum.elim_inl, Sum.elim_inr, ↓reduceIte, Nat.reduceLT, Nat.reduceLeDiff, not_false_eq_true, not_true_eq_false, Nat.reduceEqDiff, Nat.reduceAdd, reduceCtorEq, and_true, true_and, and_false, false_and, false_or, or_false]
    · have a1 : ¬ nI s < nI e := by rw [nI_ltI (by omega) (by omega)]; exact hlt
      have hse2 : s = e := by omega
      refine ⟨s, s, 17, 0, px_wi χ 0 9 (nI 17), ?_, ⟨⟨hps, hse, hbk⟩, Or.inl ⟨hse2, hse2, rfl, rfl⟩⟩, fr_wi w2 _ NX9, ?_, ?_, wi_s _ _ _ _, fun h => absurd h (by decide)⟩
      · unfold f_9_47
        rw [h6]
        simp only [hχ]
        simp only [la_0, k6, k8, a1, gd_tt, oA_arr, px_obj_s, Option.bind_some, Option.map_some, Option.bind_none, eq_self, true_or, or_true, px_av_0, px_av_1, px_av_2, px_av_10, px_av_11, bn, wi_1, wi_2, wl_1, wl_21, wl_22, wr_1, wr_21, wr_22, Sum.elim_inl, Sum.elim_inr, ↓reduceIte, Nat.reduceLT, Nat.reduceLeDiff, not_false_eq_true, not_true_eq_false, Nat.reduceEqDiff, Nat.reduceAdd, reduceCtorEq, and_true, true_and, and_false, false_and, false_or, or_false]
      · rw [w_o (by decide)]; exact k6
      · rw [w_o (by decide)]; exact k7
  intro k
  induction k with
  | zero =>
    intro s hs hps hbk ρ hf h6
    have htρ := tp_NX hf ht
    have sE := n_see htρ (p := s) (by omega)
    rw [if_neg (by omega)] at sE
    obtain ⟨s', q', κ, v, υ, y1, y2⟩ := stop s (by omega) hps hbk (fun h => by omega) ρ hf h6
    refine ⟨s', q', κ, v, υ, ?_, y2⟩
    unfold f_9_8
    refine lp_end ?_
    have z1 : ¬ (-1 : Int32) = nI 10 := by decide
    have z2 : ¬ (-1 : Int32) = nI 32 := by decide
    unfold F_9_8
    simp only [la_0, h6, sE, z1, z2, y1, gd_tt, oA_arr, px_obj_s, Option.bind_some, Option.map_some, Option.bind_none, eq_self, true_or, or_true, px_av_0, px_av_1, px_av_2, px_av_10, px_av_11, bn, wi_1, wi_2, wl_1, wl_21, wl_22, wr_1, wr_21, wr_22, Sum.elim_inl, Sum.elim_inr, ↓reduceIte, Nat.reduceLT, Nat.reduceLeDiff, not_false_eq_true, not_true_eq_false, Nat.reduceEqDiff, Nat.reduceAdd, reduceCtorEq, and_true, true_and, and_false, false_and, false_or, or_false]
  | succ k ih =>
    intro s hs hps hbk ρ hf h6
    have htρ := tp_NX hf ht
    have hb := ht.2.2.2.2 s
    have sE := n_see htρ (p := s) (by omega)
    rw [if_pos (by omega)] at sE
    by_cases hbl : blk b s
    · have w2 : fr NX ρ (px_wi ρ 0 6 (nI (s + 1))) := fr_wi (fr_rf _ _) _ NX6
      have := ih (s + 1) (by omega) (by omega) (fun i h1 h2 => by
        by_cases his : i = s
        · subst his; exact hbl
        · exact hbk i h1 (by omega)) _ (fr_tr hf w2) (wi_s _ _ _ _)
      unfold f_9_8 at this ⊢
      rw [lp_next (a' := px_wi ρ 0 6 (nI (s + 1))) (by
        unfold F_9_8 f_9_34
        rcases hbl with h | h
        · rw [h] at sE
          simp only [la_0, h6, sE, nI_add, gd_tt, oA_arr, px_obj_s, Option.bind_some, Option.map_some, Option.bind_none, eq_self, true_or, or_true, px_av_0, px_av_1, px_av_2, px_av_10, px_av_11, bn, wi_1, wi_2, wl_1, wl_21, wl_22, wr_1, wr_21, wr_22, Sum.elim_inl, Sum.elim_inr, ↓reduceIte, Nat.reduceLT, Nat.reduceLeDiff, not_false_eq_true, not_true_eq_false, Nat.reduceEqDiff, Nat.reduceAdd, reduceCtorEq, and_true, true_and, and_false, false_and, false_or, or_false]
        · rw [h] at sE
          have z1 : ¬ nI 32 = nI 10 := by decide
          simp only [la_0, h6, sE, z1, nI_add, gd_tt, oA_arr, px_obj_s, Option.bind_some, Option.map_some, Option.bind_none, eq_self, true_or, or_true, px_av_0, px_av_1, px_av_2, px_av_10, px_av_11, bn, wi_1, wi_2, wl_1, wl_21, wl_22, wr_1, wr_21, wr_22, Sum.elim_inl, Sum.elim_inr, ↓reduceIte, Nat.reduceLT, Nat.reduceLeDiff, not_false_eq_true, not_true_eq_false, Nat.reduceEqDiff, Nat.reduceAdd, reduceCtorEq, and_true, true_and, and_false, false_and, false_or, or_false])]
      exact this
    · obtain ⟨s', q', κ, v, υ, y1, y2⟩ := stop s (by omega) hps hbk (fun _ => hbl) ρ hf h6
      refine ⟨s', q', κ, v, υ, ?_, y2⟩
      unfold f_9_8
      refine lp_end ?_
      unfold blk at hbl
      have z1 : ¬ nI (b s) = nI 10 := by rw [nI_eq (by omega) (by omega)]; omega
      have z2 : ¬ nI (b s) = nI 32 := by rw [nI_eq (by omega) (by omega)]; omega
      unfold F_9_8
      simp only [la_0, h6, sE, z1, z2, y1, gd_tt, oA_arr, px_obj_s, Option.bind_some, Option.map_some, Option.bind_none, eq_self, true_or, or_true, px_av_0, px_av_1, px_av_2, px_av_10, px_av_11, bn, wi_1, wi_2, wl_1, wl_21, wl_22, wr_1, wr_21, wr_22, Sum.elim_inl, Sum.elim_inr, ↓reduceIte, Nat.reduceLT, Nat.reduceLeDiff, not_false_eq_true, not_true_eq_false, Nat.reduceEqDiff, Nat.reduceAdd, reduceCtorEq, and_true, true_and, and_false, false_and, false_or, or_false]
end
