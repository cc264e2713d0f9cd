/-! towns that were -/
theorem wi_s (σ : px_M) (l j : Nat) (v : Int32) : (px_wi σ l j v).1 l j = v := px_up_s _ _ _ _
section
variable {σ τ : px_M} {A n : Nat} {B : Nat → Nat}
/-- a town as a row of twelve -/
def trow (n : Nat) (B : Nat → Nat) (j : Nat) : Int32 := if j = 0 then nI n else nI (B (j - 1))
theorem trow_0 (n : Nat) (B : Nat → Nat) : trow n B 0 = nI n := rfl
theorem trow_S (n : Nat) (B : Nat → Nat) (h : Nat) : trow n B (1 + h) = nI (B h) := by
  unfold trow
  rw [if_neg (by omega), Nat.add_sub_cancel_left]
theorem mo_row (hm : mo σ n B) {j : Nat} (hj : j < 12) : σ.1 1 (1 + j) = trow n B j := by
  unfold trow
  by_cases h : j = 0
  · subst h; exact hm.2.2.1
  · rw [if_neg h, show 1 + j = 2 + (j - 1) by omega]; exact hm.2.2.2 (j - 1) (by omega)
theorem mo_of_row (hR : mR σ.2.2) (hw : wf n B) (h : ∀ j, j < 12 → σ.1 1 (1 + j) = trow n B j) : mo σ n B := ⟨hR, hw, h 0 (by omega), fun x hx => by
  have := h (1 + x) (by omega)
  rw [trow_S, show 1 + (1 + x) = 2 + x by omega] at this
  exact this⟩
/-- the model's row of towns that were: the i-th before, counted from the latest -/
def mh (σ : px_M) (off d : Nat) (G : Nat → Nat → Int32) : Prop := d ≤ 12 ∧ σ.1 1 (off + 13) = nI d ∧ ∀ i, i < d → ∀ j, j < 12 → σ.1 1 (off + 14 + 12 * (d - 1 - i) + j) = G i j
def psh (G : Nat → Nat → Int32) (R : Nat → Int32) : Nat → Nat → Int32 := fun i => if i = 0 then R else G (i - 1)
/-- all of them are towns -/
def gw (d : Nat) (G : Nat → Nat → Int32) : Prop := ∀ i, i < d → ∃ n B, wf n B ∧ ∀ j, j < 12 → G i j = trow n B j
def hs (l j : Nat) : Bool := l == 1 && (decide (13 ≤ j) && decide (j < 158))
theorem hs_t {j : Nat} (h1 : 13 ≤ j) (h2 : j < 158) : hs 1 j = true := by simp [hs, h1, h2]
theorem hs_f {j : Nat} (h1 : j < 13) : hs 1 j = false := by simp [hs, show ¬ 13 ≤ j by omega]
theorem e_notes58 (hR : mR σ.2.2) {d : Nat} (hd : d < 12) {G : Nat → Nat → Int32} (hG : mh σ 0 d G) : ∃ υ, f_58_58 tT 0 (nI 0) σ = some υ ∧ fr hs σ υ ∧ mh υ 0 (d + 1) (psh G (fun j => σ.1 1 (1 + j))) := by
  obtain ⟨h1, h2, h3⟩ := hG
  rw [Nat.zero_add] at h2
  unfold f_58_58
  exact lp_for (F := fun q : Int32 × px_M => F_58_58 tT 0 q.1 q.2) (fun j q => q.1 = nI j ∧ fr hs σ q.2 ∧ q.2.1 1 13 = nI d ∧ (∀ i, i < d → ∀ k, k < 12 → q.2.1 1 (14 + 12 * (d - 1 - i) + k) = G i k) ∧ ∀ k, k < j → q.2.1 1 (14 + 12 * d + k) = σ.1 1 (1 + k)) (fun b => fr hs σ b ∧ mh b 0 (d + 1) (psh G (fun j => σ.1 1 (1 + j)))) 12 (fun j q hj hI => by
    obtain ⟨x, υ⟩ := q
    obtain ⟨hx, g1, g2, g3, g4⟩ := hI
    dsimp only at hx g1 g2 g3 g4
    subst hx
    have hR := mR_fr g1 hR
    have h5 : υ.1 1 (1 + j) = σ.1 1 (1 + j) := g1.1 1 (1 + j) (hs_f (by omega))
    refine ⟨(nI (j + 1), px_wi υ 1 (14 + 12 * d + j) (σ.1 1 (1 + j))), ?_, rfl, fr_wi g1 _ (hs_t (by omega) (by omega)), ?_, fun i hi k hk => ?_, fun k hk => ?_⟩
    · simp (disch := omega) only [F_58_58, la_0, la_1, la_2, la_3, la_4, la_15, la_16, la_17, la_18, la_19, la_20, la_23, la_24, la_25, la_26, la_27, la_28, la_31, la_35, la_36, la_37, rm_0_1 hR, rm_0_2 hR, rm_0_3 hR, rm_0_4 hR, rm_0_15 hR, rm_0_16 hR, rm_0_17 hR, rm_0_18 hR, rm_0_19 hR, rm_0_20 hR, rm_0_23 hR, rm_0_24 hR, rm_0_25 hR, rm_0_26 hR, rm_0_27 hR, rm_0_28 hR, rm_0_31 hR, rm_0_35 hR, rm_0_36 hR, rm_0_37 hR, gd_tt, oA_arr, px_obj_s, Option.bind_some, Option.map_some, Option.bind_none, eq_self, true_or, or_true, px_av_0, px_av_1, px_av_2, px_av_10, px_av_11, bn, wi_1, wi_2, wl_1, wl_21, wl_22, wr_1, wr_21, wr_22, Sum.elim_inl, Sum.elim_inr, ↓reduceIte, Nat.reduceLT, Nat.reduceLeDiff, not_false_eq_true, not_true_eq_false, Nat.reduceEqDiff, Nat.reduceAdd, reduceCtorEq, and_true, true_and, and_false, false_and, false_or, or_false, true_and, and_true, ni_divL, ni_subL, nI_add, pk_mul, nI_leI, nI_ltI, nI_eq, vp_in_eq, nI_clamp, ↓ni_tst, ni_tst2, fa_and, fa_or, ni_bit1, ni_1s, nI_l, mb_eq0, mb_ne0, mb_eq1, gd_tt, gd_t, bft, g2, h5]
      rw [if_neg (by omega)]
    · show px_up υ.1 1 (14 + 12 * d + j) _ 1 13 = _
      rw [up_s, if_neg (by omega)]; exact g2
    · show px_up υ.1 1 (14 + 12 * d + j) _ 1 _ = _
      rw [up_s, if_neg (by omega)]; exact g3 i hi k hk
    · show px_up υ.1 1 (14 + 12 * d + j) _ 1 _ = _
      rw [up_s]
      by_cases hkj : k = j
      · subst hkj; rw [if_pos rfl]
      · rw [if_neg (by omega)]; exact g4 k (by omega)) (fun q hI => by
    obtain ⟨x, υ⟩ := q
    obtain ⟨hx, g1, g2, g3, g4⟩ := hI
    dsimp only at hx g1 g2 g3 g4
    subst hx
    have hR := mR_fr g1 hR
    refine ⟨px_wi υ 1 13 (nI (d + 1)), ?_, fr_wi g1 _ (hs_t (by omega) (by omega)), by omega, ?_, fun i hi k hk => ?_⟩
    · simp (disch := omega) only [F_58_58, la_0, la_1, la_2, la_3, la_4, la_15, la_16, la_17, la_18, la_19, la_20, la_23, la_24, la_25, la_26, la_27, la_28, la_31, la_35, la_36, la_37, rm_0_1 hR, rm_0_2 hR, rm_0_3 hR, rm_0_4 hR, rm_0_15 hR, rm_0_16 hR, rm_0_17 hR, rm_0_18 hR, rm_0_19 hR, rm_0_20 hR, rm_0_23 hR, rm_0_24 hR, rm_0_25 hR, rm_0_26 hR, rm_0_27 hR, rm_0_28 hR, rm_0_31 hR, rm_0_35 hR, rm_0_36 hR, rm_0_37 hR, gd_tt, oA_arr, px_obj_s, Option.bind_some, Option.map_some, Option.bind_none, eq_self, true_or, or_true, px_av_0, px_av_1, px_av_2, px_av_10, px_av_11, bn, wi_1, wi_2, wl_1, wl_21, wl_22, wr_1, wr_21, wr_22, Sum.elim_inl, Sum.elim_inr, ↓reduceIte, Nat.reduceLT, Nat.reduceLeDiff, not_false_eq_true, not_true_eq_false, Nat.reduceEqDiff, Nat.reduceAdd, reduceCtorEq, and_true, true_and, and_false, false_and, false_or, or_false, true_and, and_true, ni_divL, ni_subL, nI_add, pk_mul, nI_leI, nI_ltI, nI_eq, vp_in_eq, nI_clamp, ↓ni_tst, ni_tst2, fa_and, fa_or, ni_bit1, ni_1s, nI_l, mb_eq0, mb_ne0, mb_eq1, gd_tt, gd_t, bft, g2]
    · rw [Nat.zero_add]; exact wi_s _ _ _ _
    · show px_up υ.1 1 13 _ 1 _ = _
      rw [up_s, if_neg (by omega)]
      unfold psh
      by_cases hi0 : i = 0
      · subst hi0
        rw [if_pos rfl, show 0 + 14 + 12 * (d + 1 - 1 - 0) + k = 14 + 12 * d + k by omega]
        exact g4 k hk
      · rw [if_neg hi0, show 0 + 14 + 12 * (d + 1 - 1 - i) + k = 14 + 12 * (d - 1 - (i - 1)) + k by omega]
        exact g3 (i - 1) (by omega) k hk) 0 (nI 0, σ) (by omega) ⟨rfl, fr_rf _ _, h2, fun i hi k hk => by
      have := h3 i hi k hk
      rw [Nat.zero_add] at this
      exact this, fun k hk => absurd hk (by omega)⟩
theorem e_notes (hR : mR σ.2.2) {d : Nat} {G : Nat → Nat → Int32} (hG : mh σ 0 d G) : ∃ υ, f_58 tT σ 0 = some υ ∧ fr hs σ υ ∧ mh υ 0 (if d = 12 then 12 else d + 1) (psh G (fun j => σ.1 1 (1 + j))) := by
  obtain ⟨h1, h2, h3⟩ := id hG
  rw [Nat.zero_add] at h2
  by_cases hd : d = 12
  · subst hd
    rw [if_pos rfl]
    have lp : ∃ υ, f_58_14 tT 0 (nI 0) σ = some υ ∧ fr hs σ υ ∧ mh υ 0 12 (psh G (fun j => σ.1 1 (1 + j))) := by
      unfold f_58_14
      exact lp_for (F := fun q : Int32 × px_M => F_58_14 tT 0 q.1 q.2) (fun j q => q.1 = nI j ∧ fr hs σ q.2 ∧ q.2.1 1 13 = nI 12 ∧ (∀ k, k < j → q.2.1 1 (14 + k) = σ.1 1 (26 + k)) ∧ ∀ k, j ≤ k → k < 144 → q.2.1 1 (14 + k) = σ.1 1 (14 + k)) (fun b => fr hs σ b ∧ mh b 0 12 (psh G (fun j => σ.1 1 (1 + j)))) 132 (fun j q hj hI => by
        obtain ⟨x, υ⟩ := q
        obtain ⟨hx, g1, g2, g3, g4⟩ := hI
        dsimp only at hx g1 g2 g3 g4
        subst hx
        have hR := mR_fr g1 hR
        have h5 := g4 (j + 12) (by omega) (by omega)
        rw [show 14 + (j + 12) = 26 + j by omega] at h5
        refine ⟨(nI (j + 1), px_wi υ 1 (14 + j) (σ.1 1 (26 + j))), ?_, rfl, fr_wi g1 _ (hs_t (by omega) (by omega)), ?_, fun k hk => ?_, fun k hk hk2 => ?_⟩
        · simp (disch := omega) only [F_58_14, la_0, la_1, la_2, la_3, la_4, la_15, la_16, la_17, la_18, la_19, la_20, la_23, la_24, la_25, la_26, la_27, la_28, la_31, la_35, la_36, la_37, rm_0_1 hR, rm_0_2 hR, rm_0_3 hR, rm_0_4 hR, rm_0_15 hR, rm_0_16 hR, rm_0_17 hR, rm_0_18 hR, rm_0_19 hR, rm_0_20 hR, rm_0_23 hR, rm_0_24 hR, rm_0_25 hR, rm_0_26 hR, rm_0_27 hR, rm_0_28 hR, rm_0_31 hR, rm_0_35 hR, rm_0_36 hR, rm_0_37 hR, gd_tt, oA_arr, px_obj_s, Option.bind_some, Option.map_some, Option.bind_none, eq_self, true_or, or_true, px_av_0, px_av_1, px_av_2, px_av_10, px_av_11, bn, wi_1, wi_2, wl_1, wl_21, wl_22, wr_1, wr_21, wr_22, Sum.elim_inl, Sum.elim_inr, ↓reduceIte, Nat.reduceLT, Nat.reduceLeDiff, not_false_eq_true, not_true_eq_false, Nat.reduceEqDiff, Nat.reduceAdd, reduceCtorEq, and_true, true_and, and_false, false_and, false_or, or_false, true_and, and_true, ni_divL, ni_subL, nI_add, pk_mul, nI_leI, nI_ltI, nI_eq, vp_in_eq, nI_clamp, ↓ni_tst, ni_tst2, fa_and, fa_or, ni_bit1, ni_1s, nI_l, mb_eq0, mb_ne0, mb_eq1, gd_tt, gd_t, bft, h5]
          rw [if_neg (by omega)]
        · show px_up υ.1 1 (14 + j) _ 1 13 = _
          rw [up_s, if_neg (by omega)]; exact g2
        · show px_up υ.1 1 (14 + j) _ 1 _ = _
          rw [up_s]
          by_cases hkj : k = j
          · subst hkj; rw [if_pos rfl]
          · rw [if_neg (by omega)]; exact g3 k (by omega)
        · show px_up υ.1 1 (14 + j) _ 1 _ = _
          rw [up_s, if_neg (by omega)]; exact g4 k (by omega) hk2) (fun q hI => by
        obtain ⟨x, υ⟩ := q
        obtain ⟨hx, g1, g2, g3, g4⟩ := hI
        dsimp only at hx g1 g2 g3 g4
        subst hx
        have hR' := mR_fr g1 hR
        have hm11 : mh (px_wi υ 1 13 (nI 11)) 0 11 (fun i => G i) := by
          refine ⟨by omega, by rw [Nat.zero_add]; exact wi_s _ _ _ _, fun i hi k hk => ?_⟩
          show px_up υ.1 1 13 _ 1 _ = G i k
          rw [up_s, if_neg (by omega), show 0 + 14 + 12 * (11 - 1 - i) + k = 14 + (12 * (10 - i) + k) by omega, g3 _ (by omega), ← h3 i (by omega) k hk, show 26 + (12 * (10 - i) + k) = 0 + 14 + 12 * (12 - 1 - i) + k by omega]
        obtain ⟨ρ, q1, q2, q3⟩ := e_notes58 (σ := px_wi υ 1 13 (nI 11)) hR' (by omega) hm11
        have hrow : (fun j => (px_wi υ 1 13 (nI 11)).1 1 (1 + j)) = fun j => (px_wi υ 1 13 (nI 11)).1 1 (1 + j) := rfl
        refine ⟨ρ, ?_, fr_tr (fr_wi g1 _ (hs_t (by omega) (by omega))) q2, ?_⟩
        · have hR := hR'
          simp (disch := omega) only [F_58_14, la_0, la_1, la_2, la_3, la_4, la_15, la_16, la_17, la_18, la_19, la_20, la_23, la_24, la_25, la_26, la_27, la_28, la_31, la_35, la_36, la_37, rm_0_1 hR, rm_0_2 hR, rm_0_3 hR, rm_0_4 hR, rm_0_15 hR, rm_0_16 hR, rm_0_17 hR, rm_0_18 hR, rm_0_19 hR, rm_0_20 hR, rm_0_23 hR, rm_0_24 hR, rm_0_25 hR, rm_0_26 hR, rm_0_27 hR, rm_0_28 hR, rm_0_31 hR, rm_0_35 hR, rm_0_36 hR, rm_0_37 hR, gd_tt, oA_arr, px_obj_s, Option.bind_some, Option.map_some, Option.bind_none, eq_self, true_or, or_true, px_av_0, px_av_1, px_av_2, px_av_10, px_av_11, bn, wi_1, wi_2, wl_1, wl_21, wl_22, wr_1, wr_21, wr_22, Sum.elim_inl, Sum.elim_inr, ↓reduceIte, Nat.reduceLT, Nat.reduceLeDiff, not_false_eq_true, not_true_eq_false, Nat.reduceEqDiff, Nat.reduceAdd, reduceCtorEq, and_true, true_and, and_false, false_and, false_or, or_false, true_and, and_true, ni_divL, ni_subL, nI_add, pk_mul, nI_leI, nI_ltI, nI_eq, vp_in_eq, nI_clamp, ↓ni_tst, ni_tst2, fa_and, fa_or, ni_bit1, ni_1s, nI_l, mb_eq0, mb_ne0, mb_eq1, gd_tt, gd_t, bft, g2]
          rw [q1]
          rfl
        · obtain ⟨m1, m2, m3⟩ := q3
          refine ⟨m1, m2, fun i hi k hk => ?_⟩
          rw [m3 i hi k hk]
          unfold psh
          by_cases hi0 : i = 0
          · subst hi0
            rw [if_pos rfl, if_pos rfl]
            show px_up υ.1 1 13 _ 1 (1 + k) = _
            rw [up_s]
            by_cases hk12 : 1 + k = 13
            · omega
            · rw [if_neg hk12]; exact g1.1 1 (1 + k) (hs_f (by omega))
          · rw [if_neg hi0, if_neg hi0]) 0 (nI 0, σ) (by omega) ⟨rfl, fr_rf _ _, h2, fun k hk => absurd hk (by omega), fun k _ _ => rfl⟩
    obtain ⟨υ, q1, q2, q3⟩ := lp
    refine ⟨υ, ?_, q2, q3⟩
    simp (disch := omega) only [f_58, la_0, la_1, la_2, la_3, la_4, la_15, la_16, la_17, la_18, la_19, la_20, la_23, la_24, la_25, la_26, la_27, la_28, la_31, la_35, la_36, la_37, rm_0_1 hR, rm_0_2 hR, rm_0_3 hR, rm_0_4 hR, rm_0_15 hR, rm_0_16 hR, rm_0_17 hR, rm_0_18 hR, rm_0_19 hR, rm_0_20 hR, rm_0_23 hR, rm_0_24 hR, rm_0_25 hR, rm_0_26 hR, rm_0_27 hR, rm_0_28 hR, rm_0_31 hR, rm_0_35 hR, rm_0_36 hR, rm_0_37 hR, gd_tt, oA_arr, px_obj_s, Option.bind_some, Option.map_some, Option.bind_none, eq_self, true_or, or_true, px_av_0, px_av_1, px_av_2, px_av_10, px_av_11, bn, wi_1, wi_2, wl_1, wl_21, wl_22, wr_1, wr_21, wr_22, Sum.elim_inl, Sum.elim_inr, ↓reduceIte, Nat.reduceLT, Nat.reduceLeDiff, not_false_eq_true, not_true_eq_false, Nat.reduceEqDiff, Nat.reduceAdd, reduceCtorEq, and_true, true_and, and_false, false_and, false_or, or_false, true_and, and_true, ni_divL, ni_subL, nI_add, pk_mul, nI_leI, nI_ltI, nI_eq, vp_in_eq, nI_clamp, ↓ni_tst, ni_tst2, fa_and, fa_or, ni_bit1, ni_1s, nI_l, mb_eq0, mb_ne0, mb_eq1, gd_tt, gd_t, bft, h2]
    exact q1
  · rw [if_neg hd]
    obtain ⟨υ, q1, q2, q3⟩ := e_notes58 hR (by omega) hG
    refine ⟨υ, ?_, q2, q3⟩
    simp (disch := omega) only [f_58, la_0, la_1, la_2, la_3, la_4, la_15, la_16, la_17, la_18, la_19, la_20, la_23, la_24, la_25, la_26, la_27, la_28, la_31, la_35, la_36, la_37, rm_0_1 hR, rm_0_2 hR, rm_0_3 hR, rm_0_4 hR, rm_0_15 hR, rm_0_16 hR, rm_0_17 hR, rm_0_18 hR, rm_0_19 hR, rm_0_20 hR, rm_0_23 hR, rm_0_24 hR, rm_0_25 hR, rm_0_26 hR, rm_0_27 hR, rm_0_28 hR, rm_0_31 hR, rm_0_35 hR, rm_0_36 hR, rm_0_37 hR, gd_tt, oA_arr, px_obj_s, Option.bind_some, Option.map_some, Option.bind_none, eq_self, true_or, or_true, px_av_0, px_av_1, px_av_2, px_av_10, px_av_11, bn, wi_1, wi_2, wl_1, wl_21, wl_22, wr_1, wr_21, wr_22, Sum.elim_inl, Sum.elim_inr, ↓reduceIte, Nat.reduceLT, Nat.reduceLeDiff, not_false_eq_true, not_true_eq_false, Nat.reduceEqDiff, Nat.reduceAdd, reduceCtorEq, and_true, true_and, and_false, false_and, false_or, or_false, true_and, and_true, ni_divL, ni_subL, nI_add, pk_mul, nI_leI, nI_ltI, nI_eq, vp_in_eq, nI_clamp, ↓ni_tst, ni_tst2, fa_and, fa_or, ni_bit1, ni_1s, nI_l, mb_eq0, mb_ne0, mb_eq1, gd_tt, gd_t, bft, h2]
    rw [if_neg hd]
    exact q1
/-! the class's annals -/
/-- the ring of towns that were -/
def ch (σ : px_M) (A d : Nat) (G : Nat → Nat → Int32) : Prop := d ≤ 12 ∧ σ.1 A 3 = nI d ∧ ∃ L, L < 12 ∧ σ.1 A 4 = nI L ∧ ∀ i, i < d → (∀ h, h < 11 → σ.1 (A + 7) ((L + 12 - i) % 12 * 12 + h) = G i (1 + h)) ∧ σ.1 (A + 7) ((L + 12 - i) % 12 * 12 + 11) = G i 0
/-- cells of annals at A -/
def al (σ : px_M) (A : Nat) : Prop := px_lay tT A = some (.inl 1) ∧ px_lay tT (A + 7) = some (.inr (0, 144)) ∧ σ.2.2 A 0 = some (A + 1) ∧ σ.2.2 A 5 = some (A + 7)
def hsC (A l j : Nat) : Bool := (l == A && (j == 3 || j == 4)) || l == A + 7
theorem hsC_n {A l j : Nat} (h1 : l ≠ A) (h2 : l ≠ A + 7) : hsC A l j = false := by simp [hsC, h1, h2]
theorem al_fr {S : Nat → Nat → Bool} (h : fr S σ τ) (hD : ∀ j, DR A j = false) (ha : al σ A) : al τ A := ⟨ha.1, ha.2.1, by rw [h.2.2 A 0 (Or.inr (hD 0))]; exact ha.2.2.1, by rw [h.2.2 A 5 (Or.inr (hD 5))]; exact ha.2.2.2⟩
theorem c_remember (hA : al σ A) (hD : ∀ j, DR A j = false) (hc : ct σ (A + 1) n B) {d : Nat} {G : Nat → Nat → Int32} (hG : ch σ A d G) : ∃ υ, f_1004 tT σ A = some υ ∧ fr (hsC A) σ υ ∧ ch υ A (if d = 12 then 12 else d + 1) (psh G (trow n B)) := by
  obtain ⟨h1, h2, L, hL, h3, h4⟩ := hG
  have hw := hc.2.2.2.1
  have hn := hw.1
  have kp : ∀ υ, fr (hsC A) σ υ → ct υ (A + 1) n B := fun υ h => ct_fr h (fun j => hsC_n (by omega) (by omega)) (fun j => hsC_n (by omega) (by omega)) hc
  have lp : ∀ L' ρ, L' < 12 → L' = (L + 1) % 12 → fr (hsC A) σ ρ → ρ.1 A 3 = nI d → ρ.1 A 4 = nI L' → (∀ j, ρ.1 (A + 7) j = σ.1 (A + 7) j) → ∃ υ, f_1004_35 tT A (nI (L' * 12)) (nI 0) ρ = some υ ∧ fr (hsC A) σ υ ∧ ch υ A (if d = 12 then 12 else d + 1) (psh G (trow n B)) := by
    intro L' ρ hL' hLe hf g3 g4 g7
    unfold f_1004_35
    exact lp_for (F := fun q : Int32 × px_M => F_1004_35 tT A (nI (L' * 12)) q.1 q.2) (fun j q => q.1 = nI j ∧ fr (hsC A) σ q.2 ∧ q.2.1 A 3 = nI d ∧ q.2.1 A 4 = nI L' ∧ (∀ k, k < j → q.2.1 (A + 7) (L' * 12 + k) = nI (B k)) ∧ ∀ k, (k < L' * 12 ∨ L' * 12 + 12 ≤ k) → q.2.1 (A + 7) k = σ.1 (A + 7) k) (fun b => fr (hsC A) σ b ∧ ch b A (if d = 12 then 12 else d + 1) (psh G (trow n B))) 11 (fun j q hj hI => by
      obtain ⟨x, υ⟩ := q
      obtain ⟨hx, k1, k2, k3, k4, k5⟩ := hI
      dsimp only at hx k1 k2 k3 k4 k5
      subst hx
      obtain ⟨a1, a2, a3, a4⟩ := al_fr k1 hD hA
      obtain ⟨c1, c2, c3, -, c5, c6⟩ := kp υ k1
      refine ⟨(nI (j + 1), px_wi υ (A + 7) (L' * 12 + j) (nI (B j))), ?_, rfl, fr_wi k1 _ (by simp [hsC]), ?_, ?_, fun k hk => ?_, fun k hk => ?_⟩
      · simp (disch := omega) only [F_1004_35, f_1004_48, a1, a2, a3, a4, c1, c2, c3, gd_tt, oA_arr, px_obj_s, Option.bind_some, Option.map_some, Option.bind_none, eq_self, true_or, or_true, px_av_0, px_av_1, px_av_2, px_av_10, px_av_11, bn, wi_1, wi_2, wl_1, wl_21, wl_22, wr_1, wr_21, wr_22, Sum.elim_inl, Sum.elim_inr, ↓reduceIte, Nat.reduceLT, Nat.reduceLeDiff, not_false_eq_true, not_true_eq_false, Nat.reduceEqDiff, Nat.reduceAdd, reduceCtorEq, and_true, true_and, and_false, false_and, false_or, or_false, true_and, and_true, ni_divL, ni_subL, nI_add, pk_mul, nI_leI, nI_ltI, nI_eq, vp_in_eq, nI_clamp, ↓ni_tst, ni_tst2, fa_and, fa_or, ni_bit1, ni_1s, nI_l, mb_eq0, mb_ne0, mb_eq1, gd_tt, gd_t, bft, c6]
        rw [if_neg (by omega)]
      · show px_up υ.1 (A + 7) _ _ A 3 = _
        rw [px_up_row (by omega)]; exact k2
      · show px_up υ.1 (A + 7) _ _ A 4 = _
        rw [px_up_row (by omega)]; exact k3
      · show px_up υ.1 (A + 7) (L' * 12 + j) _ (A + 7) _ = _
        rw [up_s]
        by_cases hkj : k = j
        · subst hkj; rw [if_pos rfl]
        · rw [if_neg (by omega)]; exact k4 k (by omega)
      · show px_up υ.1 (A + 7) (L' * 12 + j) _ (A + 7) _ = _
        rw [up_s, if_neg (by omega)]; exact k5 k hk) (fun q hI => by
      obtain ⟨x, υ⟩ := q
      obtain ⟨hx, k1, k2, k3, k4, k5⟩ := hI
      dsimp only at hx k1 k2 k3 k4 k5
      subst hx
      obtain ⟨a1, a2, a3, a4⟩ := al_fr k1 hD hA
      obtain ⟨c1, c2, c3, -, c5, c6⟩ := kp υ k1
      have hmin : (if nI 12 < nI (d + 1) then nI 12 else nI (d + 1)) = nI (if d = 12 then 12 else d + 1) := by
        by_cases hd : d = 12
        · subst hd; rfl
        · rw [if_neg (by rw [nI_ltI (by omega) (by omega)]; omega), if_neg hd]
      refine ⟨px_wi (px_wi υ (A + 7) (L' * 12 + 11) (nI n)) A 3 (nI (if d = 12 then 12 else d + 1)), ?_, fr_wi (fr_wi k1 _ (by simp [hsC])) _ (by simp [hsC]), by split <;> omega, px_up_s _ _ _ _, L', hL', ?_, fun i hi => ?_⟩
      · have hA7 : A ≠ A + 7 := by omega
        simp only [F_1004_35, f_1004_72, f_1004_87, a1, a2, a3, a4, c1, c5, gd_tt, oA_arr, px_obj_s, Option.bind_some, Option.map_some, Option.bind_none, eq_self, true_or, or_true, px_av_0, px_av_1, px_av_2, px_av_10, px_av_11, bn, wi_1, wi_2, wl_1, wl_21, wl_22, wr_1, wr_21, wr_22, Sum.elim_inl, Sum.elim_inr, ↓reduceIte, Nat.reduceLT, Nat.reduceLeDiff, not_false_eq_true, not_true_eq_false, Nat.reduceEqDiff, Nat.reduceAdd, reduceCtorEq, and_true, true_and, and_false, false_and, false_or, or_false, px_up_row hA7, k2, nI_add]
        rw [if_pos (by decide), hmin, gd_t (by rw [vp_in_eq (by omega)]; omega), nI_clamp (by omega)]
        rfl
      · show px_up (px_up υ.1 (A + 7) _ _) A 3 _ A 4 = _
        rw [up_s, if_neg (by omega), px_up_row (by omega)]; exact k3
      · have hsl : ∀ k, (px_wi (px_wi υ (A + 7) (L' * 12 + 11) (nI n)) A 3 (nI (if d = 12 then 12 else d + 1))).1 (A + 7) k = if k = L' * 12 + 11 then nI n else υ.1 (A + 7) k := by
          intro k
          show px_up (px_up υ.1 (A + 7) _ _) A 3 _ (A + 7) k = _
          rw [px_up_row (by omega), up_s]
        simp only [hsl]
        unfold psh
        by_cases hi0 : i = 0
        · subst hi0
          have hq : (L' + 12 - 0) % 12 = L' := by omega
          rw [hq, if_pos rfl, if_pos rfl]
          refine ⟨fun h hh => ?_, rfl⟩
          rw [if_neg (by omega), trow_S]
          exact k4 h hh
        · have hid : i - 1 < d ∧ i ≤ 11 := by
            split at hi <;> omega
          have hq : (L' + 12 - i) % 12 = (L + 12 - (i - 1)) % 12 := by omega
          have hne : (L + 12 - (i - 1)) % 12 ≠ L' := by omega
          rw [hq, if_neg hi0]
          obtain ⟨m1, m2⟩ := h4 (i - 1) hid.1
          generalize (L + 12 - (i - 1)) % 12 = Q at *
          refine ⟨fun h hh => ?_, ?_⟩
          · rw [if_neg (by omega), k5 _ (by omega)]; exact m1 h hh
          · rw [if_neg (by omega), k5 _ (by omega)]; exact m2) 0 (nI 0, ρ) (by omega) ⟨rfl, hf, g3, g4, fun k hk => absurd hk (by omega), fun k _ => g7 k⟩
  obtain ⟨a1, a2, a3, a4⟩ := id hA
  by_cases h12 : L = 11
  · subst h12
    obtain ⟨υ, q1, q2, q3⟩ := lp 0 (px_wi σ A 4 (nI 0)) (by omega) rfl (fr_wi (fr_rf _ _) _ (by simp [hsC])) (by
      show px_up σ.1 A 4 _ A 3 = _
      rw [up_s, if_neg (by omega)]; exact h2) (px_up_s _ _ _ _) (fun j => by
      show px_up σ.1 A 4 _ (A + 7) j = _
      rw [px_up_row (by omega)])
    refine ⟨υ, ?_, q2, q3⟩
    simp (disch := omega) only [f_1004, f_1004_33, a1, h3, gd_tt, oA_arr, px_obj_s, Option.bind_some, Option.map_some, Option.bind_none, eq_self, true_or, or_true, px_av_0, px_av_1, px_av_2, px_av_10, px_av_11, bn, wi_1, wi_2, wl_1, wl_21, wl_22, wr_1, wr_21, wr_22, Sum.elim_inl, Sum.elim_inr, ↓reduceIte, Nat.reduceLT, Nat.reduceLeDiff, not_false_eq_true, not_true_eq_false, Nat.reduceEqDiff, Nat.reduceAdd, reduceCtorEq, and_true, true_and, and_false, false_and, false_or, or_false, true_and, and_true, ni_divL, ni_subL, nI_add, pk_mul, nI_leI, nI_ltI, nI_eq, vp_in_eq, nI_clamp, ↓ni_tst, ni_tst2, fa_and, fa_or, ni_bit1, ni_1s, nI_l, mb_eq0, mb_ne0, mb_eq1, gd_tt, gd_t, bft, px_up_s]
    exact q1
  · obtain ⟨υ, q1, q2, q3⟩ := lp (L + 1) (px_wi σ A 4 (nI (L + 1))) (by omega) (by omega) (fr_wi (fr_rf _ _) _ (by simp [hsC])) (by
      show px_up σ.1 A 4 _ A 3 = _
      rw [up_s, if_neg (by omega)]; exact h2) (px_up_s _ _ _ _) (fun j => by
      show px_up σ.1 A 4 _ (A + 7) j = _
      rw [px_up_row (by omega)])
    refine ⟨υ, ?_, q2, q3⟩
    simp (disch := omega) only [f_1004, f_1004_33, a1, h3, gd_tt, oA_arr, px_obj_s, Option.bind_some, Option.map_some, Option.bind_none, eq_self, true_or, or_true, px_av_0, px_av_1, px_av_2, px_av_10, px_av_11, bn, wi_1, wi_2, wl_1, wl_21, wl_22, wr_1, wr_21, wr_22, Sum.elim_inl, Sum.elim_inr, ↓reduceIte, Nat.reduceLT, Nat.reduceLeDiff, not_false_eq_true, not_true_eq_false, Nat.reduceEqDiff, Nat.reduceAdd, reduceCtorEq, and_true, true_and, and_false, false_and, false_or, or_false, true_and, and_true, ni_divL, ni_subL, nI_add, pk_mul, nI_leI, nI_ltI, nI_eq, vp_in_eq, nI_clamp, ↓ni_tst, ni_tst2, fa_and, fa_or, ni_bit1, ni_1s, nI_l, mb_eq0, mb_ne0, mb_eq1, gd_tt, gd_t, bft, px_up_s]
    rw [if_neg (by omega)]
    exact q1
end
