/-! feed, town -/
theorem byt (y : Int32) : ∃ m, m < 256 ∧ y &&& nI 255 = nI m ∧ y.toInt8.toInt32 = sb m := by
  have e : y &&& nI 255 = nI (bs (fun i => bt y i) 8) := by
    apply b_ext
    intro i hi
    rw [b_and, show nI 255 = 255 from rfl, b_255, bt_nI, bs_tb, decide_eq_true hi, Bool.true_and, Bool.and_comm]
  refine ⟨bs (fun i => bt y i) 8, bs_2n (m := 8) _ (Nat.le_refl 8), e, ?_⟩
  have e2 : (nI 255).toInt8 = -1 := by decide
  unfold sb
  rw [← e, Int32.toInt8_and, e2, Int8.and_neg_one]
def shf (k : Nat) : Int32 := ([nI 24, nI 16, nI 8, nI 0, -8] : List Int32).getD k 0
theorem shf_s : ∀ k, k < 4 → shf k + (-8) = shf (k + 1) ∧ ¬ shf k < nI 0 := by decide
theorem shf_4 : shf 4 < nI 0 := by decide
theorem shf_m : ∀ i, i < 20 → nI 24 - nI 8 * (nI i - nI i / nI 4 * nI 4) = shf (i % 4) := by decide
def TPc (l j : Nat) : Bool := l == 151 || (l == 150 && j == 0)
def TPm (l j : Nat) : Bool := l == 3 || (l == 0 && (j == 0 || j == 5))
section
variable {σ τ σ' τ' : px_M}
theorem c_app (x : Int32) {t : Nat} (ht : t + 4 ≤ 900) (hR : cR σ.2.2) (h0 : σ.1 150 0 = nI t) : ∃ υ, f_9003 tT σ 150 x = some υ ∧ fr TPc σ υ ∧ υ.1 150 0 = nI (t + 4) ∧ (∀ j, j < 4 → υ.1 151 (t + j) = (x >>> (shf j &&& 31)).toInt8.toInt32) ∧ ∀ j, (j < t ∨ t + 4 ≤ j) → υ.1 151 j = σ.1 151 j := by
  have key : ∀ y k ρ, k + y = 4 → fr TPc σ ρ → ρ.1 150 0 = nI (t + k) → (∀ j, j < k → ρ.1 151 (t + j) = (x >>> (shf j &&& 31)).toInt8.toInt32) → (∀ j, (j < t ∨ t + k ≤ j) → ρ.1 151 j = σ.1 151 j) → ∃ υ, lpO (fun s : Int32 × px_M => F_9003_3 tT 150 x s.1 s.2) (shf k, ρ) = some υ ∧ fr TPc σ υ ∧ υ.1 150 0 = nI (t + 4) ∧ (∀ j, j < 4 → υ.1 151 (t + j) = (x >>> (shf j &&& 31)).toInt8.toInt32) ∧ ∀ j, (j < t ∨ t + 4 ≤ j) → υ.1 151 j = σ.1 151 j := by
    intro y
    induction y with
    | zero =>
      intro k ρ hk hf h1 h2 h3
      have : k = 4 := by omega
      subst this
      refine ⟨ρ, lp_end ?_, hf, h1, h2, h3⟩
      show F_9003_3 tT 150 x (shf 4) ρ = _
      unfold F_9003_3
      simp only [shf_4, gd_tt, oA_arr, px_obj_s, Option.bind_some, Option.map_some, Option.bind_none, eq_self, true_or, or_true, px_av_0, px_av_1, px_av_2, px_av_10, px_av_11, bn, wi_1, wi_2, wl_1, wl_21, wl_22, wr_1, wr_21, wr_22, Sum.elim_inl, Sum.elim_inr, ↓reduceIte, Nat.reduceLT, Nat.reduceLeDiff, not_false_eq_true, not_true_eq_false, Nat.reduceEqDiff, Nat.reduceAdd, reduceCtorEq, and_true, true_and, and_false, false_and, false_or, or_false]
    | succ y ih =>
      intro k ρ hk hf h1 h2 h3
      obtain ⟨s1, s2⟩ := shf_s k (by omega)
      have hRρ := cR_fr hf hR
      have a1 : ¬ nI (t + k) < nI 0 := by rw [nI_ltI (by omega) (by omega)]; omega
      have a2 : ¬ nI 900 ≤ nI (t + k) := by rw [nI_leI (by omega) (by omega)]; omega
      have c1 : vp_in (nI (t + k)) 900 := (vp_in_eq (by omega)).mpr (by omega)
      have c2 : (nI (t + k)).toNatClampNeg = t + k := nI_clamp (by omega)
      have idm : ((x >>> (shf k &&& 31)).toInt8.toInt32).toInt8.toInt32 = (x >>> (shf k &&& 31)).toInt8.toInt32 := by rw [Int8.toInt8_toInt32]
      obtain ⟨z, hz⟩ : ∃ z, z = (x >>> (shf k &&& 31)).toInt8.toInt32 := ⟨_, rfl⟩
      rw [← hz] at idm
      have hw : (px_wi ρ 151 (t + k) z).1 150 0 = nI (t + k) := by rw [wi_n (by decide)]; exact h1
      rw [lp_next (a' := (shf (k + 1), px_wi (px_wi ρ 151 (t + k) z) 150 0 (nI (t + k + 1)))) (by
        show F_9003_3 tT 150 x (shf k) ρ = _
        unfold F_9003_3 f_9003_47
        rw [← hz]
        simp only [la_150, la_151, rc_150_4 hRρ, s2, h1, a1, a2, idm, c1, c2, s1, gd_tt, oA_arr, px_obj_s, Option.bind_some, Option.map_some, Option.bind_none, eq_self, true_or, or_true, px_av_0, px_av_1, px_av_2, px_av_10, px_av_11, bn, wi_1, wi_2, wl_1, wl_21, wl_22, wr_1, wr_21, wr_22, Sum.elim_inl, Sum.elim_inr, ↓reduceIte, Nat.reduceLT, Nat.reduceLeDiff, not_false_eq_true, not_true_eq_false, Nat.reduceEqDiff, Nat.reduceAdd, reduceCtorEq, and_true, true_and, and_false, false_and, false_or, or_false]
        rw [show px_up ρ.1 151 (t + k) z 150 0 = nI (t + k) from hw, nI_add])]
      refine ih (k + 1) _ (by omega) (fr_wi (fr_wi hf _ rfl) _ rfl) (wi_s _ _ _ _) (fun j hj => ?_) (fun j hj => ?_)
      · rw [wi_n (by decide)]
        show px_up ρ.1 151 (t + k) z 151 (t + j) = _
        rw [up_s]
        by_cases q : j = k
        · subst q; rw [if_pos rfl]; exact hz
        · rw [if_neg (by omega)]; exact h2 j (by omega)
      · rw [wi_n (by decide)]
        show px_up ρ.1 151 (t + k) z 151 j = _
        rw [up_s, if_neg (by omega)]; exact h3 j (by omega)
  exact key 4 0 σ (by omega) (fr_rf _ _) (by rw [Nat.add_zero]; exact h0) (fun j hj => by omega) (fun j hj => rfl)
/-- which of five -/
def p5 (x1 x2 x3 x4 x5 : Int32) (i : Nat) : Int32 := if i < 4 then x1 else if i < 8 then x2 else if i < 12 then x3 else if i < 16 then x4 else x5
theorem e_feed (x1 x2 x3 x4 x5 : Int32) {t : Nat} (ht : t + 20 ≤ 900) (hR : mR τ.2.2) (h0 : τ.1 0 5 = nI t) : ∃ υ, f_4_24 tT 0 x1 x2 x3 x4 x5 (nI 0) τ = some (nI (t + 20), υ) ∧ fr TPm τ υ ∧ υ.1 0 5 = nI (t + 20) ∧ (∀ j, j < 20 → υ.1 3 (t + j) = (p5 x1 x2 x3 x4 x5 j >>> (shf (j % 4) &&& 31)) &&& nI 255) ∧ ∀ j, (j < t ∨ t + 20 ≤ j) → υ.1 3 j = τ.1 3 j := by
  have key : ∀ y k ρ, k + y = 20 → fr TPm τ ρ → ρ.1 0 5 = nI (t + k) → (∀ j, j < k → ρ.1 3 (t + j) = (p5 x1 x2 x3 x4 x5 j >>> (shf (j % 4) &&& 31)) &&& nI 255) → (∀ j, (j < t ∨ t + k ≤ j) → ρ.1 3 j = τ.1 3 j) → ∃ υ, lpO (fun s : Int32 × px_M => F_4_24 tT 0 x1 x2 x3 x4 x5 s.1 s.2) (nI k, ρ) = some (nI (t + 20), υ) ∧ fr TPm τ υ ∧ υ.1 0 5 = nI (t + 20) ∧ (∀ j, j < 20 → υ.1 3 (t + j) = (p5 x1 x2 x3 x4 x5 j >>> (shf (j % 4) &&& 31)) &&& nI 255) ∧ ∀ j, (j < t ∨ t + 20 ≤ j) → υ.1 3 j = τ.1 3 j := by
    intro y
    induction y with
    | zero =>
      intro k ρ hk hf h1 h2 h3
      have : k = 20 := by omega
      subst this
      have a1 : nI 20 ≤ nI 20 := by decide
      refine ⟨ρ, lp_end ?_, hf, h1, h2, h3⟩
      show F_4_24 tT 0 x1 x2 x3 x4 x5 (nI 20) ρ = _
      unfold F_4_24
      simp only [a1, la_0, h1, gd_tt, oA_arr, px_obj_s, Option.bind_some, Option.map_some, Option.bind_none, eq_self, true_or, or_true, px_av_0, px_av_1, px_av_2, px_av_10, px_av_11, bn, wi_1, wi_2, wl_1, wl_21, wl_22, wr_1, wr_21, wr_22, Sum.elim_inl, Sum.elim_inr, ↓reduceIte, Nat.reduceLT, Nat.reduceLeDiff, not_false_eq_true, not_true_eq_false, Nat.reduceEqDiff, Nat.reduceAdd, reduceCtorEq, and_true, true_and, and_false, false_and, false_or, or_false]
    | succ y ih =>
      intro k ρ hk hf h1 h2 h3
      have hRρ := mR_fr hf hR
      have a1 : ¬ nI 20 ≤ nI k := by rw [nI_leI (by omega) (by omega)]; omega
      have n4 : ¬ nI 4 = nI 0 := by decide
      have c1 : vp_in (nI (t + k)) 900 := (vp_in_eq (by omega)).mpr (by omega)
      have c2 : (nI (t + k)).toNatClampNeg = t + k := nI_clamp (by omega)
      obtain ⟨z, hz⟩ : ∃ z, z = (p5 x1 x2 x3 x4 x5 k >>> (shf (k % 4) &&& 31)) &&& nI 255 := ⟨_, rfl⟩
      have hw : (px_wi ρ 3 (t + k) z).1 0 5 = nI (t + k) := by rw [wi_n (by decide)]; exact h1
      have st : ∀ w, w = p5 x1 x2 x3 x4 x5 k → f_4_79 tT ρ 0 x1 x2 x3 x4 x5 (nI k) w = some (.inl (nI (k + 1), px_wi (px_wi ρ 3 (t + k) z) 0 5 (nI (t + k + 1)))) := fun w e => by
        unfold f_4_79
        rw [shf_m k (by omega), e, ← hz]
        simp only [la_0, la_3, rm_0_3 hRρ, n4, h1, c1, c2, nI_add, gd_tt, oA_arr, px_obj_s, Option.bind_some, Option.map_some, Option.bind_none, eq_self, true_or, or_true, px_av_0, px_av_1, px_av_2, px_av_10, px_av_11, bn, wi_1, wi_2, wl_1, wl_21, wl_22, wr_1, wr_21, wr_22, Sum.elim_inl, Sum.elim_inr, ↓reduceIte, Nat.reduceLT, Nat.reduceLeDiff, not_false_eq_true, not_true_eq_false, Nat.reduceEqDiff, Nat.reduceAdd, reduceCtorEq, and_true, true_and, and_false, false_and, false_or, or_false]
        rw [show px_up ρ.1 3 (t + k) z 0 5 = nI (t + k) from hw, nI_add]
      rw [lp_next (a' := (nI (k + 1), px_wi (px_wi ρ 3 (t + k) z) 0 5 (nI (t + k + 1)))) (by
        show F_4_24 tT 0 x1 x2 x3 x4 x5 (nI k) ρ = _
        unfold F_4_24
        rw [if_neg a1]
        by_cases q4 : k < 4
        · rw [if_neg (by rw [nI_leI (by omega) (by omega)]; omega)]
          exact st _ (by unfold p5; rw [if_pos q4])
        · rw [if_pos (by rw [nI_leI (by omega) (by omega)]; omega)]
          by_cases q8 : k < 8
          · rw [if_neg (by rw [nI_leI (by omega) (by omega)]; omega)]
            exact st _ (by unfold p5; rw [if_neg q4, if_pos q8])
          · rw [if_pos (by rw [nI_leI (by omega) (by omega)]; omega)]
            by_cases q12 : k < 12
            · rw [if_neg (by rw [nI_leI (by omega) (by omega)]; omega)]
              exact st _ (by unfold p5; rw [if_neg q4, if_neg q8, if_pos q12])
            · rw [if_pos (by rw [nI_leI (by omega) (by omega)]; omega)]
              by_cases q16 : k < 16
              · rw [if_neg (by rw [nI_leI (by omega) (by omega)]; omega)]
                exact st _ (by unfold p5; rw [if_neg q4, if_neg q8, if_neg q12, if_pos q16])
              · rw [if_pos (by rw [nI_leI (by omega) (by omega)]; omega)]
                exact st _ (by unfold p5; rw [if_neg q4, if_neg q8, if_neg q12, if_neg q16]))]
      refine ih (k + 1) _ (by omega) (fr_wi (fr_wi hf _ rfl) _ rfl) (wi_s _ _ _ _) (fun j hj => ?_) (fun j hj => ?_)
      · rw [wi_n (by decide)]
        show px_up ρ.1 3 (t + k) z 3 (t + j) = _
        rw [up_s]
        by_cases q : j = k
        · subst q; rw [if_pos rfl]; exact hz
        · rw [if_neg (by omega)]; exact h2 j (by omega)
      · rw [wi_n (by decide)]
        show px_up ρ.1 3 (t + k) z 3 j = _
        rw [up_s, if_neg (by omega)]; exact h3 j (by omega)
  exact key 20 0 τ (by omega) (fr_rf _ _) (by rw [Nat.add_zero]; exact h0) (fun j hj => by omega) (fun j hj => rfl)
theorem ST_tape (h : ST σ τ) (f1 : fr TPc σ σ') (f2 : fr TPm τ τ') (ht : tpX σ' τ') : ST σ' τ' := by
  obtain ⟨⟨hR, hRm⟩, ha, ⟨i0, i1⟩, hrw, htp, ⟨hf1, hf2⟩, hdr⟩ := h
  have q : ∀ l j, l < 150 → TPc l j = false := fun l j hl => by
    simp only [TPc, Bool.or_eq_false_iff, Bool.and_eq_false_iff, beq_eq_false_iff_ne]
    omega
  have p : ∀ l j, l ≠ 0 → l ≠ 3 → TPm l j = false := fun l j h1 h2 => by
    simp only [TPm, Bool.or_eq_false_iff, Bool.and_eq_false_iff, beq_eq_false_iff_ne]
    omega
  refine ⟨⟨cR_fr f1 hR, mR_fr f2 hRm⟩, anX_fr f1 (fun l j a1 a2 => q l j (by omega)) (fun k hk => f2.1 1 _ rfl) ha, ⟨?_, ?_⟩, ?_, ht, ⟨?_, ?_⟩, ?_⟩
  · exact imX_fr (by omega) f1 f2 (fun l j hl => q l j (by omega)) (fun j => rfl) (fun j _ _ => f2.1 1 _ rfl) i0
  · exact imX_fr (by omega) f1 f2 (fun l j hl => q l j (by omega)) (fun j => rfl) (fun j _ _ => f2.1 1 _ rfl) i1
  · exact rwX_fr f1 f2 (fun l j h1 h2 => q l j (by omega)) (fun l j h1 h2 => p l j (by omega) (by omega)) hrw
  · rw [f1.1 150 1 rfl, f2.1 0 13 rfl]; exact hf1
  · rw [f1.1 150 2 rfl, f2.1 0 14 rfl]; exact hf2
  · exact drX_fr f1 (q _ _ (by omega)) (q _ _ (by omega)) hdr
theorem SJ_tape (h : ST σ τ) (f1 : fr TPc σ σ') (f2 : fr TPm τ τ') (ht : tpX σ' τ') : SJ σ τ σ' τ' := by
  refine ⟨ST_tape h f1 f2 ht, lo_fr f1 (fun l j hl => ?_), hi_fr f2 (fun l j hl => ?_)⟩
  · simp only [TPc, Bool.or_eq_false_iff, Bool.and_eq_false_iff, beq_eq_false_iff_ne]
    omega
  · simp only [TPm, Bool.or_eq_false_iff, Bool.and_eq_false_iff, beq_eq_false_iff_ne]
    omega
theorem s_feed (h : ST σ τ) (x1 x2 x3 x4 x5 : Int32) : stII σ τ (f_12002 tT σ 100 x1 x2 x3 x4 x5) (f_4 tT τ 0 x1 x2 x3 x4 x5) := by
  have hT := ST_thr h
  have hJ := SJ_thr h
  have hR := h.1.1
  have hRm := hT.1.2
  obtain ⟨b, t, t1, t2, t3, t4, t5, t6⟩ := id hT.2.2.2.2.1
  by_cases hroom : t + 20 ≤ 900
  · have a1 : ¬ nI 900 < nI (t + 20) := by rw [nI_ltI (by omega) (by omega)]; omega
    have a2 : nI (t + 20) ≤ nI 900 := by rw [nI_leI (by omega) (by omega)]; omega
    have n1 : ¬ nI 1 = nI 0 := by decide
    obtain ⟨σ1, y1, y2, y3, y4, y5⟩ := c_app x1 (t := t) (by omega) hR t2
    have hR1 := cR_fr y2 hR
    obtain ⟨σ2, z1, z2, z3, z4, z5⟩ := c_app x2 (t := t + 4) (by omega) hR1 y3
    have hR2 := cR_fr z2 hR1
    obtain ⟨σ3, u1, u2, u3, u4, u5⟩ := c_app x3 (t := t + 4 + 4) (by omega) hR2 z3
    have hR3 := cR_fr u2 hR2
    obtain ⟨σ4, v1, v2, v3, v4, v5⟩ := c_app x4 (t := t + 4 + 4 + 4) (by omega) hR3 u3
    have hR4 := cR_fr v2 hR3
    obtain ⟨σ5, w1, w2, w3, w4, w5⟩ := c_app x5 (t := t + 4 + 4 + 4 + 4) (by omega) hR4 v3
    have hR5 := cR_fr w2 hR4
    obtain ⟨υ, m1, m2, m3, m4, m5⟩ := e_feed x1 x2 x3 x4 x5 (t := t) hroom hRm t3
    have bf : ∀ j, ∃ m, m < 256 ∧ (p5 x1 x2 x3 x4 x5 j >>> (shf (j % 4) &&& 31)) &&& nI 255 = nI m ∧ (p5 x1 x2 x3 x4 x5 j >>> (shf (j % 4) &&& 31)).toInt8.toInt32 = sb m := fun j => byt _
    have fin : fr TPc σ σ5 := fr_tr y2 (fr_tr z2 (fr_tr u2 (fr_tr v2 w2)))
    have hc : ∀ j, j < 20 → σ5.1 151 (t + j) = (p5 x1 x2 x3 x4 x5 j >>> (shf (j % 4) &&& 31)).toInt8.toInt32 := fun j hj => by
      by_cases q4 : j < 4
      · rw [w5 _ (by omega), v5 _ (by omega), u5 _ (by omega), z5 _ (by omega), y4 j q4]
        unfold p5; rw [if_pos q4, Nat.mod_eq_of_lt q4]
      · by_cases q8 : j < 8
        · rw [w5 _ (by omega), v5 _ (by omega), u5 _ (by omega), show t + j = t + 4 + (j - 4) by omega, z4 _ (by omega)]
          unfold p5; rw [if_neg q4, if_pos q8, show j % 4 = j - 4 by omega]
        · by_cases q12 : j < 12
          · rw [w5 _ (by omega), v5 _ (by omega), show t + j = t + 4 + 4 + (j - 8) by omega, u4 _ (by omega)]
            unfold p5; rw [if_neg q4, if_neg q8, if_pos q12, show j % 4 = j - 8 by omega]
          · by_cases q16 : j < 16
            · rw [w5 _ (by omega), show t + j = t + 4 + 4 + 4 + (j - 12) by omega, v4 _ (by omega)]
              unfold p5; rw [if_neg q4, if_neg q8, if_neg q12, if_pos q16, show j % 4 = j - 12 by omega]
            · rw [show t + j = t + 4 + 4 + 4 + 4 + (j - 16) by omega, w4 _ (by omega)]
              unfold p5; rw [if_neg q4, if_neg q8, if_neg q12, if_neg q16, show j % 4 = j - 16 by omega]
    have hco : ∀ j, (j < t ∨ t + 20 ≤ j) → σ5.1 151 j = σ.1 151 j := fun j hj => by
      rw [w5 _ (by omega), v5 _ (by omega), u5 _ (by omega), z5 _ (by omega), y5 _ (by omega)]
    refine ⟨nI (t + 20), σ5, υ, ?_, ?_, SJ_go hJ <| SJ_tape hT fin m2 ⟨fun i => if t ≤ i ∧ i < t + 20 then (bf (i - t)).choose else b i, t + 20, hroom, w3, m3, fun i hi => ?_, fun i hi => ?_, fun i => ?_⟩⟩
    · have e9 : f_9002 tT σ 150 (nI 20) = some (nI 1) := by
        unfold f_9002
        simp only [la_150, t2, nI_add, a1, gd_tt, oA_arr, px_obj_s, Option.bind_some, Option.map_some, Option.bind_none, eq_self, true_or, or_true, px_av_0, px_av_1, px_av_2, px_av_10, px_av_11, bn, wi_1, wi_2, wl_1, wl_21, wl_22, wr_1, wr_21, wr_22, Sum.elim_inl, Sum.elim_inr, ↓reduceIte, Nat.reduceLT, Nat.reduceLeDiff, not_false_eq_true, not_true_eq_false, Nat.reduceEqDiff, Nat.reduceAdd, reduceCtorEq, and_true, true_and, and_false, false_and, false_or, or_false]
      unfold f_12002 f_12002_31 f_12002_57
      simp only [la_100, la_150, rc_100_4 hR, rc_100_4 hR1, rc_100_4 hR2, rc_100_4 hR3, rc_100_4 hR4, rc_100_4 hR5, e9, n1, y1, z1, u1, v1, w1, w3, gd_tt, oA_arr, px_obj_s, Option.bind_some, Option.map_some, Option.bind_none, eq_self, true_or, or_true, px_av_0, px_av_1, px_av_2, px_av_10, px_av_11, bn, wi_1, wi_2, wl_1, wl_21, wl_22, wr_1, wr_21, wr_22, Sum.elim_inl, Sum.elim_inr, ↓reduceIte, Nat.reduceLT, Nat.reduceLeDiff, not_false_eq_true, not_true_eq_false, Nat.reduceEqDiff, Nat.reduceAdd, reduceCtorEq, and_true, true_and, and_false, false_and, false_or, or_false]
    · unfold f_4
      generalize px_wi τ 0 0 (nI 0) = ζ at hT hJ hRm t3 m1 ⊢
      simp only [la_0, t3, nI_add, a2, m1, gd_tt, oA_arr, px_obj_s, Option.bind_some, Option.map_some, Option.bind_none, eq_self, true_or, or_true, px_av_0, px_av_1, px_av_2, px_av_10, px_av_11, bn, wi_1, wi_2, wl_1, wl_21, wl_22, wr_1, wr_21, wr_22, Sum.elim_inl, Sum.elim_inr, ↓reduceIte, Nat.reduceLT, Nat.reduceLeDiff, not_false_eq_true, not_true_eq_false, Nat.reduceEqDiff, Nat.reduceAdd, reduceCtorEq, and_true, true_and, and_false, false_and, false_or, or_false]
    · dsimp only
      by_cases q : t ≤ i ∧ i < t + 20
      · rw [if_pos q]
        have := hc (i - t) (by omega)
        rw [show t + (i - t) = i by omega] at this
        rw [this]; exact (bf (i - t)).choose_spec.2.2
      · rw [if_neg q, hco i (by omega)]; exact t4 i hi
    · dsimp only
      by_cases q : t ≤ i ∧ i < t + 20
      · rw [if_pos q]
        have := m4 (i - t) (by omega)
        rw [show t + (i - t) = i by omega] at this
        rw [this]; exact (bf (i - t)).choose_spec.2.1
      · rw [if_neg q, m5 i (by omega)]; exact t5 i hi
    · dsimp only
      by_cases q : t ≤ i ∧ i < t + 20
      · rw [if_pos q]; exact (bf (i - t)).choose_spec.1
      · rw [if_neg q]; exact t6 i
  · have a1 : nI 900 < nI (t + 20) := by rw [nI_ltI (by omega) (by omega)]; omega
    have a2 : ¬ nI (t + 20) ≤ nI 900 := by rw [nI_leI (by omega) (by omega)]; omega
    refine ⟨-5, σ, px_wi τ 0 0 (nI 0), ?_, ?_, hJ⟩
    · have e9 : f_9002 tT σ 150 (nI 20) = some (nI 0) := by
        unfold f_9002
        simp only [la_150, t2, nI_add, a1, gd_tt, oA_arr, px_obj_s, Option.bind_some, Option.map_some, Option.bind_none, eq_self, true_or, or_true, px_av_0, px_av_1, px_av_2, px_av_10, px_av_11, bn, wi_1, wi_2, wl_1, wl_21, wl_22, wr_1, wr_21, wr_22, Sum.elim_inl, Sum.elim_inr, ↓reduceIte, Nat.reduceLT, Nat.reduceLeDiff, not_false_eq_true, not_true_eq_false, Nat.reduceEqDiff, Nat.reduceAdd, reduceCtorEq, and_true, true_and, and_false, false_and, false_or, or_false]
      unfold f_12002
      simp only [la_100, la_150, rc_100_4 hR, e9, gd_tt, oA_arr, px_obj_s, Option.bind_some, Option.map_some, Option.bind_none, eq_self, true_or, or_true, px_av_0, px_av_1, px_av_2, px_av_10, px_av_11, bn, wi_1, wi_2, wl_1, wl_21, wl_22, wr_1, wr_21, wr_22, Sum.elim_inl, Sum.elim_inr, ↓reduceIte, Nat.reduceLT, Nat.reduceLeDiff, not_false_eq_true, not_true_eq_false, Nat.reduceEqDiff, Nat.reduceAdd, reduceCtorEq, and_true, true_and, and_false, false_and, false_or, or_false]
    · unfold f_4
      generalize px_wi τ 0 0 (nI 0) = ζ at hT hJ hRm t3 ⊢
      simp only [la_0, t3, nI_add, a2, gd_tt, oA_arr, px_obj_s, Option.bind_some, Option.map_some, Option.bind_none, eq_self, true_or, or_true, px_av_0, px_av_1, px_av_2, px_av_10, px_av_11, bn, wi_1, wi_2, wl_1, wl_21, wl_22, wr_1, wr_21, wr_22, Sum.elim_inl, Sum.elim_inr, ↓reduceIte, Nat.reduceLT, Nat.reduceLeDiff, not_false_eq_true, not_true_eq_false, Nat.reduceEqDiff, Nat.reduceAdd, reduceCtorEq, and_true, true_and, and_false, false_and, false_or, or_false]
end
