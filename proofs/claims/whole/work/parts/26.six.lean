/-! sets of three that are all neighbours, or none of them; the calmest six -/
section
variable {σ τ : px_M} {t n : Nat} {B : Nat → Nat}
def dn (B : Nat → Nat) (a b c : Nat) : Nat := ((B a).testBit b).toNat + ((B a).testBit c).toNat + ((B b).testBit c).toNat
def lv (B : Nat → Nat) (s : Nat) (both : Bool) (a b c : Nat) : Nat := if s.testBit a = true ∧ s.testBit b = true ∧ s.testBit c = true then (if dn B a b c = 0 ∨ (both = true ∧ dn B a b c = 3) then 1 else 0) else 0
def l2 (B : Nat → Nat) (n s : Nat) (both : Bool) (a b : Nat) : Nat := sm (fun c => if b < c then lv B s both a b c else 0) n
def l1 (B : Nat → Nat) (n s : Nat) (both : Bool) (a : Nat) : Nat := sm (fun b => if a < b then l2 B n s both a b else 0) n
def lk (B : Nat → Nat) (n s : Nat) (both : Bool) : Nat := sm (fun a => l1 B n s both a) n
theorem e_lk3 (hm : mo σ n B) {s : Nat} (hs : s < 2048) (both : Bool) {a b : Nat} (ha : a < n) (hb : b < n) (z : Nat) : f_84_39 tT σ 0 (nI s) (mb both) (nI a) (nI b) (nI z) (nI (b + 1)) = some (.inl (nI (z + l2 B n s both a b), nI (b + 1))) := by
  obtain ⟨hR, hw, e1, hnb⟩ := id hm
  have hn := hw.1
  have hBa := wf_2048 hw a
  have hBb := wf_2048 hw b
  have := lp_to (F := fun q : Int32 × Int32 => F_84_39 tT σ 0 (nI s) (mb both) (nI a) (nI b) q.1 q.2) (I := fun j => (nI (z + sm (fun c => if b < c then lv B s both a b c else 0) (b + 1 + j)), nI (b + 1 + j))) (b := .inl (nI (z + l2 B n s both a b), nI (b + 1))) (n - (b + 1)) (fun i hi => by
    have hbi : b < b + 1 + i := by omega
    have hin : b + 1 + i < n := by omega
    rw [show b + 1 + (i + 1) = (b + 1 + i) + 1 by omega]
    generalize b + 1 + i = j at *
    simp only [sm, if_pos hbi]
    generalize sm (fun c => if b < c then lv B s both a b c else 0) j = y
    simp (disch := omega) only [F_84_39, la_0, la_1, la_2, la_3, la_4, la_15, la_16, la_17, la_18, la_19, la_20, la_23, la_24, la_25, la_26, la_27, la_28, la_31, la_35, la_36, la_37, rm_0_1 hR, rm_0_2 hR, rm_0_3 hR, rm_0_4 hR, rm_0_15 hR, rm_0_16 hR, rm_0_17 hR, rm_0_18 hR, rm_0_19 hR, rm_0_20 hR, rm_0_23 hR, rm_0_24 hR, rm_0_25 hR, rm_0_26 hR, rm_0_27 hR, rm_0_28 hR, rm_0_31 hR, rm_0_35 hR, rm_0_36 hR, rm_0_37 hR, gd_tt, oA_arr, px_obj_s, Option.bind_some, Option.map_some, Option.bind_none, eq_self, true_or, or_true, px_av_0, px_av_1, px_av_2, px_av_10, px_av_11, bn, wi_1, wi_2, wl_1, wl_21, wl_22, wr_1, wr_21, wr_22, Sum.elim_inl, Sum.elim_inr, ↓reduceIte, Nat.reduceLT, Nat.reduceLeDiff, not_false_eq_true, not_true_eq_false, Nat.reduceEqDiff, Nat.reduceAdd, reduceCtorEq, and_true, true_and, and_false, false_and, false_or, or_false, true_and, and_true, ni_divL, ni_subL, nI_add, pk_mul, nI_leI, nI_ltI, nI_eq, vp_in_eq, nI_clamp, ↓ni_tst, ni_tst2, fa_and, fa_or, ni_bit1, ni_1s, nI_l, mb_eq0, mb_ne0, mb_eq1, gd_tt, gd_t, bft, e1, e_isIn]
    rw [if_neg (by omega)]
    cases s1 : s.testBit a
    · simp [f_84_170, lv, s1, nI_add]
    · simp (disch := omega) only [f_84_60, gd_tt, oA_arr, px_obj_s, Option.bind_some, Option.map_some, Option.bind_none, eq_self, true_or, or_true, px_av_0, px_av_1, px_av_2, px_av_10, px_av_11, bn, wi_1, wi_2, wl_1, wl_21, wl_22, wr_1, wr_21, wr_22, Sum.elim_inl, Sum.elim_inr, ↓reduceIte, Nat.reduceLT, Nat.reduceLeDiff, not_false_eq_true, not_true_eq_false, Nat.reduceEqDiff, Nat.reduceAdd, reduceCtorEq, and_true, true_and, and_false, false_and, false_or, or_false, true_and, and_true, ni_divL, ni_subL, nI_add, pk_mul, nI_leI, nI_ltI, nI_eq, vp_in_eq, nI_clamp, ↓ni_tst, ni_tst2, fa_and, fa_or, ni_bit1, ni_1s, nI_l, mb_eq0, mb_ne0, mb_eq1, gd_tt, gd_t, bft, e_isIn]
      cases s2 : s.testBit b
      · simp [f_84_170, lv, s1, s2, nI_add]
      · simp (disch := omega) only [f_84_70, gd_tt, oA_arr, px_obj_s, Option.bind_some, Option.map_some, Option.bind_none, eq_self, true_or, or_true, px_av_0, px_av_1, px_av_2, px_av_10, px_av_11, bn, wi_1, wi_2, wl_1, wl_21, wl_22, wr_1, wr_21, wr_22, Sum.elim_inl, Sum.elim_inr, ↓reduceIte, Nat.reduceLT, Nat.reduceLeDiff, not_false_eq_true, not_true_eq_false, Nat.reduceEqDiff, Nat.reduceAdd, reduceCtorEq, and_true, true_and, and_false, false_and, false_or, or_false, true_and, and_true, ni_divL, ni_subL, nI_add, pk_mul, nI_leI, nI_ltI, nI_eq, vp_in_eq, nI_clamp, ↓ni_tst, ni_tst2, fa_and, fa_or, ni_bit1, ni_1s, nI_l, mb_eq0, mb_ne0, mb_eq1, gd_tt, gd_t, bft, e_isIn]
        cases s3 : s.testBit j
        · simp [f_84_170, lv, s1, s2, s3, nI_add]
        · simp (disch := omega) only [f_84_83, f_84_98, f_84_102, f_84_147, f_84_170, la_0, la_1, la_2, la_3, la_4, la_15, la_16, la_17, la_18, la_19, la_20, la_23, la_24, la_25, la_26, la_27, la_28, la_31, la_35, la_36, la_37, gd_tt, oA_arr, px_obj_s, Option.bind_some, Option.map_some, Option.bind_none, eq_self, true_or, or_true, px_av_0, px_av_1, px_av_2, px_av_10, px_av_11, bn, wi_1, wi_2, wl_1, wl_21, wl_22, wr_1, wr_21, wr_22, Sum.elim_inl, Sum.elim_inr, ↓reduceIte, Nat.reduceLT, Nat.reduceLeDiff, not_false_eq_true, not_true_eq_false, Nat.reduceEqDiff, Nat.reduceAdd, reduceCtorEq, and_true, true_and, and_false, false_and, false_or, or_false, true_and, and_true, ni_divL, ni_subL, nI_add, pk_mul, nI_leI, nI_ltI, nI_eq, vp_in_eq, nI_clamp, ↓ni_tst, ni_tst2, fa_and, fa_or, ni_bit1, ni_1s, nI_l, mb_eq0, mb_ne0, mb_eq1, gd_tt, gd_t, bft, e_near hm, e_isIn]
          cases d1 : (B a).testBit b <;> cases d2 : (B a).testBit j <;> cases d3 : (B b).testBit j <;> cases both <;> simp [lv, s1, s2, s3, dn, d1, d2, d3, mb_t1, mb_f0, nI_add, Nat.add_assoc, nI_eq]) (by
    rw [show b + 1 + (n - (b + 1)) = n by omega]
    simp (disch := omega) only [F_84_39, la_0, la_1, la_2, la_3, la_4, la_15, la_16, la_17, la_18, la_19, la_20, la_23, la_24, la_25, la_26, la_27, la_28, la_31, la_35, la_36, la_37, rm_0_1 hR, rm_0_2 hR, rm_0_3 hR, rm_0_4 hR, rm_0_15 hR, rm_0_16 hR, rm_0_17 hR, rm_0_18 hR, rm_0_19 hR, rm_0_20 hR, rm_0_23 hR, rm_0_24 hR, rm_0_25 hR, rm_0_26 hR, rm_0_27 hR, rm_0_28 hR, rm_0_31 hR, rm_0_35 hR, rm_0_36 hR, rm_0_37 hR, gd_tt, oA_arr, px_obj_s, Option.bind_some, Option.map_some, Option.bind_none, eq_self, true_or, or_true, px_av_0, px_av_1, px_av_2, px_av_10, px_av_11, bn, wi_1, wi_2, wl_1, wl_21, wl_22, wr_1, wr_21, wr_22, Sum.elim_inl, Sum.elim_inr, ↓reduceIte, Nat.reduceLT, Nat.reduceLeDiff, not_false_eq_true, not_true_eq_false, Nat.reduceEqDiff, Nat.reduceAdd, reduceCtorEq, and_true, true_and, and_false, false_and, false_or, or_false, true_and, and_true, ni_divL, ni_subL, nI_add, pk_mul, nI_leI, nI_ltI, nI_eq, vp_in_eq, nI_clamp, ↓ni_tst, ni_tst2, fa_and, fa_or, ni_bit1, ni_1s, nI_l, mb_eq0, mb_ne0, mb_eq1, gd_tt, gd_t, bft, e1]
    rw [if_pos (by omega)]
    rfl) 0 (by omega)
  rw [Nat.add_zero, sm_lo b, Nat.add_zero] at this
  exact this
theorem e_lk2 (hm : mo σ n B) {s : Nat} (hs : s < 2048) (both : Bool) {a : Nat} (ha : a < n) (z : Nat) : f_84_22 tT σ 0 (nI s) (mb both) (nI a) (nI z) (nI (a + 1)) = some (.inl (nI (z + l1 B n s both a), nI (a + 1))) := by
  obtain ⟨hR, hw, e1, hnb⟩ := id hm
  have hn := hw.1
  have := lp_to (F := fun q : Int32 × Int32 => F_84_22 tT σ 0 (nI s) (mb both) (nI a) q.1 q.2) (I := fun j => (nI (z + sm (fun b => if a < b then l2 B n s both a b else 0) (a + 1 + j)), nI (a + 1 + j))) (b := .inl (nI (z + l1 B n s both a), nI (a + 1))) (n - (a + 1)) (fun i hi => by
    have hbi : a < a + 1 + i := by omega
    have hin : a + 1 + i < n := by omega
    rw [show a + 1 + (i + 1) = (a + 1 + i) + 1 by omega]
    generalize a + 1 + i = j at *
    simp only [sm, if_pos hbi]
    simp (disch := omega) only [F_84_22, la_0, la_1, la_2, la_3, la_4, la_15, la_16, la_17, la_18, la_19, la_20, la_23, la_24, la_25, la_26, la_27, la_28, la_31, la_35, la_36, la_37, rm_0_1 hR, rm_0_2 hR, rm_0_3 hR, rm_0_4 hR, rm_0_15 hR, rm_0_16 hR, rm_0_17 hR, rm_0_18 hR, rm_0_19 hR, rm_0_20 hR, rm_0_23 hR, rm_0_24 hR, rm_0_25 hR, rm_0_26 hR, rm_0_27 hR, rm_0_28 hR, rm_0_31 hR, rm_0_35 hR, rm_0_36 hR, rm_0_37 hR, gd_tt, oA_arr, px_obj_s, Option.bind_some, Option.map_some, Option.bind_none, eq_self, true_or, or_true, px_av_0, px_av_1, px_av_2, px_av_10, px_av_11, bn, wi_1, wi_2, wl_1, wl_21, wl_22, wr_1, wr_21, wr_22, Sum.elim_inl, Sum.elim_inr, ↓reduceIte, Nat.reduceLT, Nat.reduceLeDiff, not_false_eq_true, not_true_eq_false, Nat.reduceEqDiff, Nat.reduceAdd, reduceCtorEq, and_true, true_and, and_false, false_and, false_or, or_false, true_and, and_true, ni_divL, ni_subL, nI_add, pk_mul, nI_leI, nI_ltI, nI_eq, vp_in_eq, nI_clamp, ↓ni_tst, ni_tst2, fa_and, fa_or, ni_bit1, ni_1s, nI_l, mb_eq0, mb_ne0, mb_eq1, gd_tt, gd_t, bft, e1]
    rw [if_neg (by omega), e_lk3 hm hs both ha hin]
    simp [Nat.add_assoc]) (by
    rw [show a + 1 + (n - (a + 1)) = n by omega]
    simp (disch := omega) only [F_84_22, la_0, la_1, la_2, la_3, la_4, la_15, la_16, la_17, la_18, la_19, la_20, la_23, la_24, la_25, la_26, la_27, la_28, la_31, la_35, la_36, la_37, rm_0_1 hR, rm_0_2 hR, rm_0_3 hR, rm_0_4 hR, rm_0_15 hR, rm_0_16 hR, rm_0_17 hR, rm_0_18 hR, rm_0_19 hR, rm_0_20 hR, rm_0_23 hR, rm_0_24 hR, rm_0_25 hR, rm_0_26 hR, rm_0_27 hR, rm_0_28 hR, rm_0_31 hR, rm_0_35 hR, rm_0_36 hR, rm_0_37 hR, gd_tt, oA_arr, px_obj_s, Option.bind_some, Option.map_some, Option.bind_none, eq_self, true_or, or_true, px_av_0, px_av_1, px_av_2, px_av_10, px_av_11, bn, wi_1, wi_2, wl_1, wl_21, wl_22, wr_1, wr_21, wr_22, Sum.elim_inl, Sum.elim_inr, ↓reduceIte, Nat.reduceLT, Nat.reduceLeDiff, not_false_eq_true, not_true_eq_false, Nat.reduceEqDiff, Nat.reduceAdd, reduceCtorEq, and_true, true_and, and_false, false_and, false_or, or_false, true_and, and_true, ni_divL, ni_subL, nI_add, pk_mul, nI_leI, nI_ltI, nI_eq, vp_in_eq, nI_clamp, ↓ni_tst, ni_tst2, fa_and, fa_or, ni_bit1, ni_1s, nI_l, mb_eq0, mb_ne0, mb_eq1, gd_tt, gd_t, bft, e1]
    rw [if_pos (by omega)]
    rfl) 0 (by omega)
  rw [Nat.add_zero, sm_lo a, Nat.add_zero] at this
  exact this
theorem e_likes (hm : mo σ n B) {s : Nat} (hs : s < 2048) (both : Bool) : f_84 tT σ 0 (nI s) (mb both) = some (nI (lk B n s both)) := by
  obtain ⟨hR, hw, e1, hnb⟩ := id hm
  have hn := hw.1
  unfold f_84 f_84_5
  refine lp_to (I := fun j => (nI (sm (fun a => l1 B n s both a) j), nI j)) n (fun i hi => ?_) ?_ 0 (by omega)
  · simp (disch := omega) only [F_84_5, la_0, la_1, la_2, la_3, la_4, la_15, la_16, la_17, la_18, la_19, la_20, la_23, la_24, la_25, la_26, la_27, la_28, la_31, la_35, la_36, la_37, rm_0_1 hR, rm_0_2 hR, rm_0_3 hR, rm_0_4 hR, rm_0_15 hR, rm_0_16 hR, rm_0_17 hR, rm_0_18 hR, rm_0_19 hR, rm_0_20 hR, rm_0_23 hR, rm_0_24 hR, rm_0_25 hR, rm_0_26 hR, rm_0_27 hR, rm_0_28 hR, rm_0_31 hR, rm_0_35 hR, rm_0_36 hR, rm_0_37 hR, gd_tt, oA_arr, px_obj_s, Option.bind_some, Option.map_some, Option.bind_none, eq_self, true_or, or_true, px_av_0, px_av_1, px_av_2, px_av_10, px_av_11, bn, wi_1, wi_2, wl_1, wl_21, wl_22, wr_1, wr_21, wr_22, Sum.elim_inl, Sum.elim_inr, ↓reduceIte, Nat.reduceLT, Nat.reduceLeDiff, not_false_eq_true, not_true_eq_false, Nat.reduceEqDiff, Nat.reduceAdd, reduceCtorEq, and_true, true_and, and_false, false_and, false_or, or_false, true_and, and_true, ni_divL, ni_subL, nI_add, pk_mul, nI_leI, nI_ltI, nI_eq, vp_in_eq, nI_clamp, ↓ni_tst, ni_tst2, fa_and, fa_or, ni_bit1, ni_1s, nI_l, mb_eq0, mb_ne0, mb_eq1, gd_tt, gd_t, bft, e1]
    rw [if_neg (by omega), e_lk2 hm hs both hi]
    rfl
  · simp (disch := omega) only [F_84_5, la_0, la_1, la_2, la_3, la_4, la_15, la_16, la_17, la_18, la_19, la_20, la_23, la_24, la_25, la_26, la_27, la_28, la_31, la_35, la_36, la_37, rm_0_1 hR, rm_0_2 hR, rm_0_3 hR, rm_0_4 hR, rm_0_15 hR, rm_0_16 hR, rm_0_17 hR, rm_0_18 hR, rm_0_19 hR, rm_0_20 hR, rm_0_23 hR, rm_0_24 hR, rm_0_25 hR, rm_0_26 hR, rm_0_27 hR, rm_0_28 hR, rm_0_31 hR, rm_0_35 hR, rm_0_36 hR, rm_0_37 hR, gd_tt, oA_arr, px_obj_s, Option.bind_some, Option.map_some, Option.bind_none, eq_self, true_or, or_true, px_av_0, px_av_1, px_av_2, px_av_10, px_av_11, bn, wi_1, wi_2, wl_1, wl_21, wl_22, wr_1, wr_21, wr_22, Sum.elim_inl, Sum.elim_inr, ↓reduceIte, Nat.reduceLT, Nat.reduceLeDiff, not_false_eq_true, not_true_eq_false, Nat.reduceEqDiff, Nat.reduceAdd, reduceCtorEq, and_true, true_and, and_false, false_and, false_or, or_false, true_and, and_true, ni_divL, ni_subL, nI_add, pk_mul, nI_leI, nI_ltI, nI_eq, vp_in_eq, nI_clamp, ↓ni_tst, ni_tst2, fa_and, fa_or, ni_bit1, ni_1s, nI_l, mb_eq0, mb_ne0, mb_eq1, gd_tt, gd_t, bft, e1]
    rw [if_pos (by omega)]
    rfl
/-- those who are neighbours of neither of two, behind the second -/
def na (B : Nat → Nat) (n a b : Nat) : Nat := ab b (nd (nd (2 ^ n - 1) (B a)) (B b))
theorem na_tb (hw : wf n B) (a b c : Nat) : (na B n a b).testBit c = (decide (c < n) && !(B a).testBit c && !(B b).testBit c && decide (b < c)) := by
  unfold na
  rw [ab_tb (nd_lt (nd_lt (al_lt hw.1))), nd_tb (nd_lt (al_lt hw.1)), nd_tb (al_lt hw.1), tb_all]
theorem c_strange (hc : ct σ t n B) : f_11032 tT σ t = some (nI (lk B n (2 ^ n - 1) false)) := by
  have hL := @c_linked σ t n B hc
  have hall := c_all hc
  obtain ⟨k1, k2, hr, hw, h1, hnb⟩ := hc
  have hn := hw.1
  have hal := al_lt hn
  have hv : ∀ a b, a < n → b < n → a < b → l2 B n (2 ^ n - 1) false a b = if (B a).testBit b = true then 0 else bc 11 (na B n a b) := by
    intro a b ha hb hab
    unfold l2
    cases hbb : (B a).testBit b
    · have h1 : na B n a b < 2 ^ n := Nat.lt_of_le_of_lt (Nat.le_trans Nat.and_le_left (Nat.le_trans Nat.and_le_left Nat.and_le_left)) (by have := Nat.two_pow_pos n; omega)
      rw [if_neg (by simp), bc_n hw h1]
      refine sm_congr (fun c hc => ?_)
      rw [na_tb hw]
      by_cases hbc : b < c
      · rw [if_pos hbc]
        simp only [lv, tb_all, decide_eq_true_eq, ha, hb, hc, and_self, ↓reduceIte, dn, hbb, hbc, decide_true]
        cases (B a).testBit c <;> cases (B b).testBit c <;> simp
      · rw [if_neg hbc]
        simp [hbc]
    · rw [if_pos rfl, sm_congr (g := fun _ => 0) (fun c _ => by
        split
        · unfold lv
          rw [show dn B a b c = 1 + ((B a).testBit c).toNat + ((B b).testBit c).toNat from by simp [dn, hbb]]
          split
          · rw [if_neg]
            simp
          · rfl
        · rfl), sm_0]
  have inner : ∀ a z, a < n → f_11032_16 tT σ t (nI a) (nI z) (nI (a + 1)) = some (.inl (nI (z + l1 B n (2 ^ n - 1) false a), nI (a + 1))) := by
    intro a z ha
    have := lp_to (F := fun q : Int32 × Int32 => F_11032_16 tT σ t (nI a) q.1 q.2) (I := fun j => (nI (z + sm (fun b => if a < b then l2 B n (2 ^ n - 1) false a b else 0) (a + 1 + j)), nI (a + 1 + j))) (b := .inl (nI (z + l1 B n (2 ^ n - 1) false a), nI (a + 1))) (n - (a + 1)) (fun i hi => by
      have hbi : a < a + 1 + i := by omega
      have hin : a + 1 + i < n := by omega
      rw [show a + 1 + (i + 1) = (a + 1 + i) + 1 by omega]
      generalize a + 1 + i = j at *
      simp only [sm, if_pos hbi, hv a j ha hin hbi]
      have hx1 : nd (2 ^ n - 1) (B a) < 2048 := nd_lt hal
      have hx2 : nd (nd (2 ^ n - 1) (B a)) (B j) < 2048 := nd_lt hx1
      have hx3 : ab j (nd (nd (2 ^ n - 1) (B a)) (B j)) < 2048 := ab_lt hx2
      simp (disch := omega) only [F_11032_16, f_11032_33, f_11032_66, k1, k2, hr, h1, hall, gd_tt, oA_arr, px_obj_s, Option.bind_some, Option.map_some, Option.bind_none, eq_self, true_or, or_true, px_av_0, px_av_1, px_av_2, px_av_10, px_av_11, bn, wi_1, wi_2, wl_1, wl_21, wl_22, wr_1, wr_21, wr_22, Sum.elim_inl, Sum.elim_inr, ↓reduceIte, Nat.reduceLT, Nat.reduceLeDiff, not_false_eq_true, not_true_eq_false, Nat.reduceEqDiff, Nat.reduceAdd, reduceCtorEq, and_true, true_and, and_false, false_and, false_or, or_false, true_and, and_true, ni_divL, ni_subL, nI_add, pk_mul, nI_leI, nI_ltI, nI_eq, vp_in_eq, nI_clamp, ↓ni_tst, ni_tst2, fa_and, fa_or, ni_bit1, ni_1s, nI_l, mb_eq0, mb_ne0, mb_eq1, gd_tt, gd_t, bft, hL, hnb, ni_nd, ni_ab, e_bitCount]
      rw [if_neg (by omega)]
      cases (B a).testBit j
      · simp [na, Nat.add_assoc]
      · simp) (by
      rw [show a + 1 + (n - (a + 1)) = n by omega]
      simp (disch := omega) only [F_11032_16, k1, h1, gd_tt, oA_arr, px_obj_s, Option.bind_some, Option.map_some, Option.bind_none, eq_self, true_or, or_true, px_av_0, px_av_1, px_av_2, px_av_10, px_av_11, bn, wi_1, wi_2, wl_1, wl_21, wl_22, wr_1, wr_21, wr_22, Sum.elim_inl, Sum.elim_inr, ↓reduceIte, Nat.reduceLT, Nat.reduceLeDiff, not_false_eq_true, not_true_eq_false, Nat.reduceEqDiff, Nat.reduceAdd, reduceCtorEq, and_true, true_and, and_false, false_and, false_or, or_false, true_and, and_true, ni_divL, ni_subL, nI_add, pk_mul, nI_leI, nI_ltI, nI_eq, vp_in_eq, nI_clamp, ↓ni_tst, ni_tst2, fa_and, fa_or, ni_bit1, ni_1s, nI_l, mb_eq0, mb_ne0, mb_eq1, gd_tt, gd_t, bft]
      rw [if_pos (by omega)]
      rfl) 0 (by omega)
    rw [Nat.add_zero, sm_lo a, Nat.add_zero] at this
    exact this
  unfold f_11032 f_11032_4
  refine lp_to (I := fun j => (nI (sm (fun a => l1 B n (2 ^ n - 1) false a) j), nI j)) n (fun i hi => ?_) ?_ 0 (by omega)
  · simp (disch := omega) only [F_11032_4, k1, h1, gd_tt, oA_arr, px_obj_s, Option.bind_some, Option.map_some, Option.bind_none, eq_self, true_or, or_true, px_av_0, px_av_1, px_av_2, px_av_10, px_av_11, bn, wi_1, wi_2, wl_1, wl_21, wl_22, wr_1, wr_21, wr_22, Sum.elim_inl, Sum.elim_inr, ↓reduceIte, Nat.reduceLT, Nat.reduceLeDiff, not_false_eq_true, not_true_eq_false, Nat.reduceEqDiff, Nat.reduceAdd, reduceCtorEq, and_true, true_and, and_false, false_and, false_or, or_false, true_and, and_true, ni_divL, ni_subL, nI_add, pk_mul, nI_leI, nI_ltI, nI_eq, vp_in_eq, nI_clamp, ↓ni_tst, ni_tst2, fa_and, fa_or, ni_bit1, ni_1s, nI_l, mb_eq0, mb_ne0, mb_eq1, gd_tt, gd_t, bft, inner]
    rw [if_neg (by omega)]
    rfl
  · simp (disch := omega) only [F_11032_4, k1, h1, gd_tt, oA_arr, px_obj_s, Option.bind_some, Option.map_some, Option.bind_none, eq_self, true_or, or_true, px_av_0, px_av_1, px_av_2, px_av_10, px_av_11, bn, wi_1, wi_2, wl_1, wl_21, wl_22, wr_1, wr_21, wr_22, Sum.elim_inl, Sum.elim_inr, ↓reduceIte, Nat.reduceLT, Nat.reduceLeDiff, not_false_eq_true, not_true_eq_false, Nat.reduceEqDiff, Nat.reduceAdd, reduceCtorEq, and_true, true_and, and_false, false_and, false_or, or_false, true_and, and_true, ni_divL, ni_subL, nI_add, pk_mul, nI_leI, nI_ltI, nI_eq, vp_in_eq, nI_clamp, ↓ni_tst, ni_tst2, fa_and, fa_or, ni_bit1, ni_1s, nI_l, mb_eq0, mb_ne0, mb_eq1, gd_tt, gd_t, bft]
    rw [if_pos (by omega)]
    rfl
theorem a_strangers (hc : cl σ n B) : agQ (f_12026 tT σ 100) (fun τ => f_85 tT τ 0) n B := by
  obtain ⟨hR, ht⟩ := hc
  refine ⟨nI (lk B n (2 ^ n - 1) false), ?_, fun τ hm => ⟨px_wi τ 0 0 (nI 0), ?_, fr_thr (fr_rf _ _)⟩⟩
  · simp only [f_12026, la_100, la_102, la_103, la_104, la_105, la_110, la_111, la_112, la_113, la_114, la_115, la_116, la_117, la_120, la_121, la_122, la_123, la_124, la_125, la_126, la_127, la_130, la_131, la_132, la_133, la_134, la_135, la_136, la_137, la_140, la_141, la_142, la_143, la_144, la_145, la_146, la_147, la_150, la_151, la_152, la_153, la_160, la_161, la_170, la_171, la_172, la_173, la_174, la_180, la_181, la_182, la_183, la_184, la_185, la_186, la_190, la_191, la_192, la_193, la_194, la_195, la_200, la_201, la_202, la_210, la_211, la_212, la_213, la_214, la_215, la_216, la_217, la_218, la_219, la_220, la_221, la_222, la_223, la_224, la_225, la_226, la_230, la_231, la_232, la_233, la_234, la_240, la_241, rc_100_0 hR, rc_100_1 hR, rc_100_2 hR, rc_100_3 hR, rc_100_4 hR, rc_100_5 hR, rc_100_6 hR, rc_100_7 hR, rc_100_8 hR, rc_100_9 hR, rc_100_10 hR, rc_100_11 hR, rc_100_12 hR, rc_100_13 hR, rc_100_14 hR, rc_100_15 hR, rc_111_1 hR, rc_113_1 hR, rc_113_2 hR, rc_113_3 hR, rc_110_0 hR, rc_110_1 hR, rc_110_5 hR, rc_121_1 hR, rc_123_1 hR, rc_123_2 hR, rc_123_3 hR, rc_120_0 hR, rc_120_1 hR, rc_120_5 hR, rc_131_1 hR, rc_133_1 hR, rc_133_2 hR, rc_133_3 hR, rc_130_0 hR, rc_130_1 hR, rc_130_5 hR, rc_141_1 hR, rc_143_1 hR, rc_143_2 hR, rc_143_3 hR, rc_140_0 hR, rc_140_1 hR, rc_140_5 hR, rc_150_3 hR, rc_150_4 hR, rc_150_5 hR, rc_150_6 hR, rc_160_0 hR, rc_173_1 hR, rc_170_0 hR, rc_170_1 hR, rc_181_0 hR, rc_185_1 hR, rc_180_0 hR, rc_180_1 hR, rc_180_2 hR, rc_192_1 hR, rc_194_1 hR, rc_190_0 hR, rc_201_1 hR, rc_200_0 hR, rc_214_1 hR, rc_211_0 hR, rc_211_1 hR, rc_216_1 hR, rc_221_1 hR, rc_221_2 hR, rc_221_3 hR, rc_225_1 hR, rc_210_0 hR, rc_210_1 hR, rc_210_2 hR, rc_210_3 hR, rc_210_4 hR, rc_231_1 hR, rc_233_1 hR, rc_230_0 hR, rc_230_1 hR, rc_240_1 hR, gd_tt, oA_arr, px_obj_s, Option.bind_some, Option.map_some, Option.bind_none, eq_self, true_or, or_true, px_av_0, px_av_1, px_av_2, px_av_10, px_av_11, bn, wi_1, wi_2, wl_1, wl_21, wl_22, wr_1, wr_21, wr_22, Sum.elim_inl, Sum.elim_inr, ↓reduceIte, Nat.reduceLT, Nat.reduceLeDiff, not_false_eq_true, not_true_eq_false, Nat.reduceEqDiff, Nat.reduceAdd, reduceCtorEq, and_true, true_and, and_false, false_and, false_or, or_false, c_strange ht]
  · have hm0 := mo_thr hm
    obtain ⟨ρ, hρ⟩ : ∃ ρ, px_wi τ 0 0 (nI 0) = ρ := ⟨_, rfl⟩
    rw [hρ] at hm0
    have hn := hm0.2.1.1
    have h2 := e_likes hm0 (al_lt hn) false
    have hp : 1 ≤ 2 ^ n := Nat.one_le_two_pow
    obtain ⟨hR, hw, e1, hnb⟩ := id hm0
    simp (disch := omega) only [f_85, hρ, la_0, la_1, la_2, la_3, la_4, la_15, la_16, la_17, la_18, la_19, la_20, la_23, la_24, la_25, la_26, la_27, la_28, la_31, la_35, la_36, la_37, rm_0_1 hR, rm_0_2 hR, rm_0_3 hR, rm_0_4 hR, rm_0_15 hR, rm_0_16 hR, rm_0_17 hR, rm_0_18 hR, rm_0_19 hR, rm_0_20 hR, rm_0_23 hR, rm_0_24 hR, rm_0_25 hR, rm_0_26 hR, rm_0_27 hR, rm_0_28 hR, rm_0_31 hR, rm_0_35 hR, rm_0_36 hR, rm_0_37 hR, gd_tt, oA_arr, px_obj_s, Option.bind_some, Option.map_some, Option.bind_none, eq_self, true_or, or_true, px_av_0, px_av_1, px_av_2, px_av_10, px_av_11, bn, wi_1, wi_2, wl_1, wl_21, wl_22, wr_1, wr_21, wr_22, Sum.elim_inl, Sum.elim_inr, ↓reduceIte, Nat.reduceLT, Nat.reduceLeDiff, not_false_eq_true, not_true_eq_false, Nat.reduceEqDiff, Nat.reduceAdd, reduceCtorEq, and_true, true_and, and_false, false_and, false_or, or_false, true_and, and_true, ni_divL, ni_subL, nI_add, pk_mul, nI_leI, nI_ltI, nI_eq, vp_in_eq, nI_clamp, ↓ni_tst, ni_tst2, fa_and, fa_or, ni_bit1, ni_1s, nI_l, mb_eq0, mb_ne0, mb_eq1, gd_tt, gd_t, bft, e1]
    rw [show nI 0 = mb false from rfl, h2]
    rfl
/-! six houses: by counting at each house -/
def c3 (q : Nat) : Nat := q * (q - 1) * (q - 2) / 6
theorem c2_S : ∀ q, q < 12 → c2 (q + 1) = c2 q + q := by decide
theorem c3_S : ∀ q, q < 12 → c3 (q + 1) = c3 q + c2 q := by decide
theorem cnt2 (s : Nat) : ∀ c, c ≤ 11 → sm (fun b => if s.testBit b = true then bc b s else 0) c = c2 (bc c s) := by
  intro c
  induction c with
  | zero => intro _; simp [sm, bc, c2]
  | succ c ih =>
    intro hc
    have := bc_le c s
    simp only [sm, bc, ih (by omega)]
    cases s.testBit c
    · simp
    · simp [c2_S (bc c s) (by omega)]
theorem cnt3 (s : Nat) : ∀ c, c ≤ 11 → sm (fun b => if s.testBit b = true then c2 (bc b s) else 0) c = c3 (bc c s) := by
  intro c
  induction c with
  | zero => intro _; simp [sm, bc, c3]
  | succ c ih =>
    intro hc
    have := bc_le c s
    simp only [sm, bc, ih (by omega)]
    cases s.testBit c
    · simp
    · simp [c3_S (bc c s) (by omega)]
def in3 (s a b c : Nat) : Nat := if s.testBit a = true ∧ s.testBit b = true ∧ s.testBit c = true then 1 else 0
theorem t3_in (s : Nat) (hn : n ≤ 11) : t3 (in3 s) n = c3 (bc n s) := by
  unfold t3
  rw [← cnt3 s n hn]
  refine sm_congr (fun c hc => ?_)
  cases h3 : s.testBit c
  · rw [if_neg (by simp), sm_congr (g := fun _ => 0) (fun b _ => by
      rw [sm_congr (g := fun _ => 0) (fun a _ => by simp [in3, h3]), sm_0]), sm_0]
  · rw [if_pos rfl, ← cnt2 s c (by omega)]
    refine sm_congr (fun b hb => ?_)
    cases h2 : s.testBit b
    · rw [if_neg (by simp), sm_congr (g := fun _ => 0) (fun a _ => by simp [in3, h2]), sm_0]
    · rw [if_pos rfl, bc_sm]
      refine sm_congr (fun a _ => ?_)
      simp only [in3, h2, h3, and_self, and_true]
      cases s.testBit a <;> rfl
/-- of two others one is a neighbour and one is not -/
def mx (B : Nat → Nat) (s h x y : Nat) : Nat := if s.testBit h = true ∧ s.testBit x = true ∧ s.testBit y = true ∧ h ≠ x ∧ h ≠ y ∧ (B h).testBit x ≠ (B h).testBit y then 1 else 0
theorem mx_sum (hw : wf n B) {s h : Nat} (hs : s < 2 ^ n) (hh : s.testBit h = true) : sm (fun x => sm (fun y => mx B s h x y) n) n = 2 * (bc 11 (B h &&& s) * (bc 11 s - 1 - bc 11 (B h &&& s))) := by
  have hn := hw.1
  have hhn : h < n := tb_lt hs hh
  have hA : B h &&& s < 2 ^ n := and_2n (hw.2.1 h)
  -- those who are none
  have hM : sm (fun y => if s.testBit y = true ∧ h ≠ y ∧ (B h).testBit y = false then 1 else 0) n = bc 11 s - 1 - bc 11 (B h &&& s) := by
    have e1 : bc 11 s = sm (fun y => if s.testBit y = true ∧ h ≠ y ∧ (B h).testBit y = false then 1 else 0) n + sm (fun y => ((B h &&& s).testBit y).toNat) n + sm (fun y => if y = h then 1 else 0) n := by
      rw [bc_n hw hs, ← sm_add, ← sm_add]
      refine sm_congr (fun y _ => ?_)
      rw [Nat.testBit_and]
      by_cases hy : y = h
      · subst hy
        simp [hh, hw.2.2.2.2 y]
      · have : ¬ h = y := fun q => hy q.symm
        cases s.testBit y <;> cases (B h).testBit y <;> simp [hy, this]
    have e2 : sm (fun y => if y = h then 1 else 0) n = 1 := by
      have : ∀ m, sm (fun y => if y = h then 1 else 0) m = if h < m then 1 else 0 := by
        intro m
        induction m with
        | zero => rfl
        | succ m ih =>
          simp only [sm, ih]
          by_cases h1 : h < m
          · simp [h1, show ¬ m = h by omega, show h < m + 1 by omega]
          · by_cases h2 : m = h
            · subst h2; simp
            · simp [h1, h2, show ¬ h < m + 1 by omega]
      rw [this, if_pos hhn]
    have e3 := bc_n hw hA
    omega
  have hN : sm (fun x => if s.testBit x = true ∧ h ≠ x ∧ (B h).testBit x = true then 1 else 0) n = bc 11 (B h &&& s) := by
    rw [bc_n hw hA]
    refine sm_congr (fun x _ => ?_)
    rw [Nat.testBit_and]
    by_cases hx : h = x
    · subst hx; simp [hw.2.2.2.2 h]
    · cases s.testBit x <;> cases (B h).testBit x <;> simp [hx]
  have e : ∀ x, sm (fun y => mx B s h x y) n = (if s.testBit x = true ∧ h ≠ x ∧ (B h).testBit x = true then 1 else 0) * (bc 11 s - 1 - bc 11 (B h &&& s)) + (if s.testBit x = true ∧ h ≠ x ∧ (B h).testBit x = false then 1 else 0) * bc 11 (B h &&& s) := by
    intro x
    rw [← hM, ← hN]
    cases h1 : s.testBit x
    · rw [sm_congr (g := fun _ => 0) (fun y _ => by simp [mx, h1]), sm_0]; simp
    · by_cases h2 : h = x
      · rw [sm_congr (g := fun _ => 0) (fun y _ => by simp [mx, h2]), sm_0]; simp [h2]
      · cases h3 : (B h).testBit x
        · simp only [h2, ne_eq, not_false_eq_true, and_false, ↓reduceIte, Nat.zero_mul, and_self, Nat.one_mul, Nat.zero_add, Bool.false_eq_true]
          refine sm_congr (fun y _ => ?_)
          simp only [mx, hh, h1, h2, h3, ne_eq, not_false_eq_true, true_and]
          cases (B h).testBit y <;> simp
        · simp only [h2, ne_eq, not_false_eq_true, and_false, ↓reduceIte, Nat.zero_mul, and_self, Nat.one_mul, Nat.add_zero, Bool.true_eq_false]
          refine sm_congr (fun y _ => ?_)
          simp only [mx, hh, h1, h2, h3, ne_eq, not_false_eq_true, true_and]
          cases (B h).testBit y <;> simp
  rw [sm_congr (fun x _ => e x), sm_add]
  rw [sm_congr (g := fun x => (bc 11 s - 1 - bc 11 (B h &&& s)) * (if s.testBit x = true ∧ h ≠ x ∧ (B h).testBit x = true then 1 else 0)) (fun x _ => Nat.mul_comm _ _), sm_mulc, hN]
  rw [sm_congr (g := fun x => bc 11 (B h &&& s) * (if s.testBit x = true ∧ h ≠ x ∧ (B h).testBit x = false then 1 else 0)) (fun x _ => Nat.mul_comm _ _), sm_mulc, hM]
  rw [Nat.mul_comm (bc 11 s - 1 - bc 11 (B h &&& s))]
  omega
theorem mx_sym (B : Nat → Nat) (s h x y : Nat) : mx B s h x y = mx B s h y x := by
  unfold mx
  congr 1
  exact propext ⟨fun ⟨a, b, c, d, e, f⟩ => ⟨a, c, b, e, d, fun q => f q.symm⟩, fun ⟨a, b, c, d, e, f⟩ => ⟨a, c, b, e, d, fun q => f q.symm⟩⟩
theorem mx_d (B : Nat → Nat) (s h x : Nat) : mx B s h x x = 0 := by simp [mx]
theorem mx_d1 (B : Nat → Nat) (s h x : Nat) : mx B s h h x = 0 := by simp [mx]
theorem mx_d2 (B : Nat → Nat) (s h x : Nat) : mx B s h x h = 0 := by simp [mx]
def mF (B : Nat → Nat) (s a b c : Nat) : Nat := mx B s a b c + mx B s b a c + mx B s c a b
theorem mF_t3 (hw : wf n B) (s : Nat) : 2 * t3 (mF B s) n = sm (fun h => sm (fun x => sm (fun y => mx B s h x y) n) n) n := by
  have h6 := sm_sym3 (f := mF B s) (fun a b c => by unfold mF; rw [mx_sym B s c a b]; omega) (fun a b c => by unfold mF; rw [mx_sym B s a b c]; omega) (fun a c => by unfold mF; rw [mx_d1, mx_d]) n
  have hsum : sm (fun a => sm (fun b => sm (fun c => mF B s a b c) n) n) n = 3 * sm (fun h => sm (fun x => sm (fun y => mx B s h x y) n) n) n := by
    have s1 : sm (fun a => sm (fun b => sm (fun c => mx B s b a c) n) n) n = sm (fun h => sm (fun x => sm (fun y => mx B s h x y) n) n) n := sm_swap (fun a b => sm (fun c => mx B s b a c) n) n n
    have s2 : sm (fun a => sm (fun b => sm (fun c => mx B s c a b) n) n) n = sm (fun h => sm (fun x => sm (fun y => mx B s h x y) n) n) n := by
      rw [sm_congr (fun a _ => sm_swap (fun b c => mx B s c a b) n n)]
      exact sm_swap (fun a c => sm (fun b => mx B s c a b) n) n n
    have s0 : sm (fun a => sm (fun b => sm (fun c => mF B s a b c) n) n) n = sm (fun h => sm (fun x => sm (fun y => mx B s h x y) n) n) n + sm (fun a => sm (fun b => sm (fun c => mx B s b a c) n) n) n + sm (fun a => sm (fun b => sm (fun c => mx B s c a b) n) n) n := by
      rw [← sm_add, ← sm_add]
      refine sm_congr (fun a _ => ?_)
      rw [← sm_add, ← sm_add]
      refine sm_congr (fun b _ => ?_)
      rw [← sm_add, ← sm_add]
      rfl
    rw [s0, s1, s2]
    omega
  omega
theorem lv_mF (hw : wf n B) {s a b c : Nat} (hab : a < b) (hbc : b < c) : mF B s a b c + 2 * lv B s true a b c = 2 * in3 s a b c := by
  unfold mF mx lv in3 dn
  rw [hw.2.2.2.1 b a, hw.2.2.2.1 c a, hw.2.2.2.1 c b]
  have n1 : a ≠ b := by omega
  have n2 : a ≠ c := by omega
  have n3 : b ≠ c := by omega
  cases s.testBit a <;> cases s.testBit b <;> cases s.testBit c <;> cases (B a).testBit b <;> cases (B a).testBit c <;> cases (B b).testBit c <;> simp [n1, n2, n3, n1.symm, n2.symm, n3.symm]
/-- what is mixed in a set, twice -/
def me (n : Nat) (B : Nat → Nat) (s : Nat) : Nat := sm (fun h => if s.testBit h = true then bc 11 (B h &&& s) * (5 - bc 11 (B h &&& s)) else 0) n
theorem t3_congr {f g : Nat → Nat → Nat → Nat} (h : ∀ a b c, a < b → b < c → c < n → f a b c = g a b c) : t3 f n = t3 g n := sm_congr (fun c hc => sm_congr (fun b hb => sm_congr (fun a ha => h a b c ha hb hc)))
theorem t3_add (f g : Nat → Nat → Nat → Nat) : t3 (fun a b c => f a b c + g a b c) n = t3 f n + t3 g n := by
  unfold t3
  rw [← sm_add]
  refine sm_congr (fun c _ => ?_)
  rw [← sm_add]
  refine sm_congr (fun b _ => ?_)
  rw [← sm_add]
theorem t3_mul (k : Nat) (f : Nat → Nat → Nat → Nat) : t3 (fun a b c => k * f a b c) n = k * t3 f n := by
  unfold t3
  rw [← sm_mulc]
  refine sm_congr (fun c _ => ?_)
  rw [← sm_mulc]
  refine sm_congr (fun b _ => ?_)
  rw [← sm_mulc]
theorem goodman (hw : wf n B) {s : Nat} (hs : s < 2 ^ n) (h6 : bc 11 s = 6) : lk B n s true = 20 - me n B s / 2 ∧ me n B s / 2 ≤ 20 := by
  have h1 : lk B n s true = t3 (lv B s true) n := (sm_up3 (lv B s true) n)
  have h2 : t3 (mF B s) n = me n B s := by
    have := mF_t3 hw s
    have e : sm (fun h => sm (fun x => sm (fun y => mx B s h x y) n) n) n = 2 * me n B s := by
      unfold me
      rw [← sm_mulc]
      refine sm_congr (fun h _ => ?_)
      cases hb : s.testBit h
      · rw [if_neg (by simp), sm_congr (g := fun _ => 0) (fun x _ => by rw [sm_congr (g := fun _ => 0) (fun y _ => by simp [mx, hb]), sm_0]), sm_0]
      · rw [if_pos rfl, mx_sum hw hs hb, h6]
    omega
  have h3 : t3 (mF B s) n + 2 * t3 (lv B s true) n = 2 * t3 (in3 s) n := by
    rw [← t3_mul, ← t3_add, ← t3_mul]
    exact t3_congr (fun a b c hab hbc _ => lv_mF hw hab hbc)
  rw [t3_in s hw.1, ← bc_11 hw.1 hs, h6, show c3 6 = 20 from rfl] at h3
  omega
theorem me_le (s m : Nat) : sm (fun h => if s.testBit h = true then bc 11 (B h &&& s) * (5 - bc 11 (B h &&& s)) else 0) m ≤ 55 * m := sm_le (fun h => by
  split
  · have := bc_le 11 (B h &&& s)
    exact Nat.le_trans (Nat.mul_le_mul this (Nat.sub_le 5 _)) (by omega)
  · omega) m
theorem ni_m5 : ∀ b, b < 6 → nI b * (nI 5 - nI b) = nI (b * (5 - b)) := by decide
theorem c_meet (hc : ct σ t n B) {s : Nat} (hs : s < 2 ^ n) (h6 : bc 11 s = 6) : f_11034 tT σ t (nI s) = some (nI (lk B n s true)) := by
  obtain ⟨k1, k2, hr, hw, h1, hnb⟩ := hc
  have hn := hw.1
  have hs' : s < 2048 := Nat.lt_of_lt_of_le hs (pw_le hn)
  obtain ⟨g1, g2⟩ := goodman hw hs h6
  rw [g1]
  unfold f_11034 f_11034_4
  refine lp_to (I := fun j => (nI (sm (fun h => if s.testBit h = true then bc 11 (B h &&& s) * (5 - bc 11 (B h &&& s)) else 0) j), nI j)) n (fun i hi => ?_) ?_ 0 (by omega)
  · have hA : B i &&& s < 2048 := and_lt (wf_2048 hw i)
    have hbs : s.testBit i = true → bc 11 (B i &&& s) < 6 := by
      intro hb
      have := bc_one (s := B i &&& s) (h := i) (j := 11) (by omega) (by rw [Nat.testBit_and, hw.2.2.2.2 i]; rfl)
      have h2 : bc 11 (B i &&& s ||| 2 ^ i) ≤ bc 11 s := bc_mono (fun x hx => by
        rw [Nat.testBit_or, Nat.testBit_and, Nat.testBit_two_pow] at hx
        simp only [Bool.or_eq_true, Bool.and_eq_true, decide_eq_true_eq] at hx
        rcases hx with hx | hx
        · exact hx.2
        · rw [← hx]; exact hb) 11
      omega
    simp (disch := omega) only [F_11034_4, f_11034_43, k1, k2, hr, h1, gd_tt, oA_arr, px_obj_s, Option.bind_some, Option.map_some, Option.bind_none, eq_self, true_or, or_true, px_av_0, px_av_1, px_av_2, px_av_10, px_av_11, bn, wi_1, wi_2, wl_1, wl_21, wl_22, wr_1, wr_21, wr_22, Sum.elim_inl, Sum.elim_inr, ↓reduceIte, Nat.reduceLT, Nat.reduceLeDiff, not_false_eq_true, not_true_eq_false, Nat.reduceEqDiff, Nat.reduceAdd, reduceCtorEq, and_true, true_and, and_false, false_and, false_or, or_false, true_and, and_true, ni_divL, ni_subL, nI_add, pk_mul, nI_leI, nI_ltI, nI_eq, vp_in_eq, nI_clamp, ↓ni_tst, ni_tst2, fa_and, fa_or, ni_bit1, ni_1s, nI_l, mb_eq0, mb_ne0, mb_eq1, gd_tt, gd_t, bft, hnb, e_bitCount]
    rw [if_neg (by omega)]
    cases hb : s.testBit i
    · simp [sm, hb]
    · have := ni_m5 (bc 11 (B i &&& s)) (hbs hb)
      simp only [Bool.true_eq_false, ↓reduceIte]
      rw [this]
      simp [sm, hb, nI_add]
  · have hle := me_le (B := B) s n
    simp (disch := omega) only [F_11034_4, k1, h1, gd_tt, oA_arr, px_obj_s, Option.bind_some, Option.map_some, Option.bind_none, eq_self, true_or, or_true, px_av_0, px_av_1, px_av_2, px_av_10, px_av_11, bn, wi_1, wi_2, wl_1, wl_21, wl_22, wr_1, wr_21, wr_22, Sum.elim_inl, Sum.elim_inr, ↓reduceIte, Nat.reduceLT, Nat.reduceLeDiff, not_false_eq_true, not_true_eq_false, Nat.reduceEqDiff, Nat.reduceAdd, reduceCtorEq, and_true, true_and, and_false, false_and, false_or, or_false, true_and, and_true, ni_divL, ni_subL, nI_add, pk_mul, nI_leI, nI_ltI, nI_eq, vp_in_eq, nI_clamp, ↓ni_tst, ni_tst2, fa_and, fa_or, ni_bit1, ni_1s, nI_l, mb_eq0, mb_ne0, mb_eq1, gd_tt, gd_t, bft]
    rw [if_pos (by omega)]
    unfold me at g2 ⊢
    rw [ni_subL (by omega)]
/-- the first of the least, among sets of six -/
def sx (f : Nat → Nat) : Nat → Option Nat
  | 0 => none
  | j + 1 => if bc 11 j = 6 then (match sx f j with
    | none => some j
    | some b => if f j < f b then some j else some b) else sx f j
theorem sx_in (f : Nat → Nat) : ∀ {j b : Nat}, sx f j = some b → b < j ∧ bc 11 b = 6 := by
  intro j
  induction j with
  | zero => intro b h; cases h
  | succ j ih =>
    intro b h
    simp only [sx] at h
    by_cases h6 : bc 11 j = 6
    · rw [if_pos h6] at h
      cases hq : sx f j with
      | none => rw [hq] at h; cases h; exact ⟨by omega, h6⟩
      | some c =>
        rw [hq] at h
        dsimp only at h
        split at h
        · cases h; exact ⟨by omega, h6⟩
        · cases h; have := ih hq; exact ⟨by omega, this.2⟩
    · rw [if_neg h6] at h
      have := ih h
      exact ⟨by omega, this.2⟩
def fx (f : Nat → Nat) (o : Option Nat) : Nat := match o with
  | none => 0
  | some b => f b
theorem lv_le (s : Nat) (both : Bool) (a b c : Nat) : lv B s both a b c ≤ 1 := by unfold lv; split <;> (try split) <;> omega
theorem lk_le (hn : n ≤ 11) (s : Nat) (both : Bool) : lk B n s both ≤ 1331 := by
  have h2 : ∀ a b, l2 B n s both a b ≤ 11 := fun a b => by
    have := sm_le (f := fun c => if b < c then lv B s both a b c else 0) (c := 1) (fun c => by split; exact lv_le _ _ _ _ _; omega) n
    unfold l2; omega
  have h1 : ∀ a, l1 B n s both a ≤ 121 := fun a => by
    have := sm_le (f := fun b => if a < b then l2 B n s both a b else 0) (c := 11) (fun b => by split; exact h2 a b; omega) n
    unfold l1; omega
  have : sm (fun a => l1 B n s both a) n ≤ 121 * n := sm_le h1 n
  unfold lk; omega
theorem c_six (hc : ct σ t n B) : f_11033 tT σ t = some (oI (sx (fun s => lk B n s true) (2 ^ n))) := by
  have hall := c_all hc
  have hmt := @c_meet σ t n B hc
  obtain ⟨k1, k2, hr, hw, h1, hnb⟩ := hc
  have hn := hw.1
  have hp := pw_le hn
  have hp1 : 1 ≤ 2 ^ n := Nat.one_le_two_pow
  have hle : ∀ s, lk B n s true ≤ 1331 := fun s => lk_le hn s true
  generalize hf : (fun s => lk B n s true) = f at *
  have hf' : ∀ s, lk B n s true = f s := fun s => by rw [← hf]
  unfold f_11033 f_11033_6
  refine lp_to (I := fun j => (oI (sx f j), nI (fx f (sx f j)), nI j)) (2 ^ n) (fun i hi => ?_) ?_ 0 (Nat.zero_le _)
  · have hb6 := bc_le 11 i
    have hli : f i ≤ 1331 := by rw [← hf']; exact hle i
    simp (disch := omega) only [F_11033_6, f_11033_44, f_11033_49, k1, h1, hall, gd_tt, oA_arr, px_obj_s, Option.bind_some, Option.map_some, Option.bind_none, eq_self, true_or, or_true, px_av_0, px_av_1, px_av_2, px_av_10, px_av_11, bn, wi_1, wi_2, wl_1, wl_21, wl_22, wr_1, wr_21, wr_22, Sum.elim_inl, Sum.elim_inr, ↓reduceIte, Nat.reduceLT, Nat.reduceLeDiff, not_false_eq_true, not_true_eq_false, Nat.reduceEqDiff, Nat.reduceAdd, reduceCtorEq, and_true, true_and, and_false, false_and, false_or, or_false, true_and, and_true, ni_divL, ni_subL, nI_add, pk_mul, nI_leI, nI_ltI, nI_eq, vp_in_eq, nI_clamp, ↓ni_tst, ni_tst2, fa_and, fa_or, ni_bit1, ni_1s, nI_l, mb_eq0, mb_ne0, mb_eq1, gd_tt, gd_t, bft, e_bitCount]
    rw [if_neg (by omega)]
    simp only [sx]
    by_cases h6 : bc 11 i = 6
    · rw [if_pos h6, if_pos h6, hmt hi h6, hf']
      simp only [Option.bind_some]
      cases hq : sx f i with
      | none => simp [oI, fx]
      | some b =>
        have hbl := (sx_in f hq).1
        have hlb : f b ≤ 1331 := by rw [← hf']; exact hle b
        simp only [oI, fx, nI_m1 (b := b) (by omega), ↓reduceIte]
        by_cases h4 : f i < f b
        · have h5 : ¬ nI (f b) ≤ nI (f i) := by rw [nI_leI (by omega) (by omega)]; omega
          simp only [h5, h4, ↓reduceIte]
        · have h5 : nI (f b) ≤ nI (f i) := by rw [nI_leI (by omega) (by omega)]; omega
          simp only [h5, h4, ↓reduceIte]
    · rw [if_neg h6, if_neg h6]
  · simp (disch := omega) only [F_11033_6, k1, h1, hall, gd_tt, oA_arr, px_obj_s, Option.bind_some, Option.map_some, Option.bind_none, eq_self, true_or, or_true, px_av_0, px_av_1, px_av_2, px_av_10, px_av_11, bn, wi_1, wi_2, wl_1, wl_21, wl_22, wr_1, wr_21, wr_22, Sum.elim_inl, Sum.elim_inr, ↓reduceIte, Nat.reduceLT, Nat.reduceLeDiff, not_false_eq_true, not_true_eq_false, Nat.reduceEqDiff, Nat.reduceAdd, reduceCtorEq, and_true, true_and, and_false, false_and, false_or, or_false, true_and, and_true, ni_divL, ni_subL, nI_add, pk_mul, nI_leI, nI_ltI, nI_eq, vp_in_eq, nI_clamp, ↓ni_tst, ni_tst2, fa_and, fa_or, ni_bit1, ni_1s, nI_l, mb_eq0, mb_ne0, mb_eq1, gd_tt, gd_t, bft]
    rw [if_pos (by omega)]
theorem e_six (hm : mo σ n B) {k : Nat} (hk : k ≤ 1) : f_86_25 tT σ 0 (nI k) (-1) (nI 0) (nI 0) = some (match sx (fun s => lk B n s true) (2 ^ n) with | none => -1 | some b => if k = 1 then nI b else nI (lk B n b true), σ) := by
  obtain ⟨hR, hw, e1, hnb⟩ := id hm
  have hn := hw.1
  have hp := pw_le hn
  have hle : ∀ s, lk B n s true ≤ 1331 := fun s => lk_le hn s true
  have hlk := fun (s : Nat) (hs : s < 2048) => e_likes hm hs true
  generalize hf : (fun s => lk B n s true) = f at *
  have hf' : ∀ s, lk B n s true = f s := fun s => by rw [← hf]
  unfold f_86_25
  refine lp_to (I := fun j => (oI (sx f j), nI (fx f (sx f j)), nI j)) (2 ^ n) (fun i hi => ?_) ?_ 0 (Nat.zero_le _)
  · have hb6 := bc_le 11 i
    have hli : f i ≤ 1331 := by rw [← hf']; exact hle i
    have hl2 := hlk i (by omega)
    rw [mb_t1, hf'] at hl2
    simp (disch := omega) only [F_86_25, f_86_74, f_86_80, la_0, la_1, la_2, la_3, la_4, la_15, la_16, la_17, la_18, la_19, la_20, la_23, la_24, la_25, la_26, la_27, la_28, la_31, la_35, la_36, la_37, rm_0_1 hR, rm_0_2 hR, rm_0_3 hR, rm_0_4 hR, rm_0_15 hR, rm_0_16 hR, rm_0_17 hR, rm_0_18 hR, rm_0_19 hR, rm_0_20 hR, rm_0_23 hR, rm_0_24 hR, rm_0_25 hR, rm_0_26 hR, rm_0_27 hR, rm_0_28 hR, rm_0_31 hR, rm_0_35 hR, rm_0_36 hR, rm_0_37 hR, hl2, gd_tt, oA_arr, px_obj_s, Option.bind_some, Option.map_some, Option.bind_none, eq_self, true_or, or_true, px_av_0, px_av_1, px_av_2, px_av_10, px_av_11, bn, wi_1, wi_2, wl_1, wl_21, wl_22, wr_1, wr_21, wr_22, Sum.elim_inl, Sum.elim_inr, ↓reduceIte, Nat.reduceLT, Nat.reduceLeDiff, not_false_eq_true, not_true_eq_false, Nat.reduceEqDiff, Nat.reduceAdd, reduceCtorEq, and_true, true_and, and_false, false_and, false_or, or_false, true_and, and_true, ni_divL, ni_subL, nI_add, pk_mul, nI_leI, nI_ltI, nI_eq, vp_in_eq, nI_clamp, ↓ni_tst, ni_tst2, fa_and, fa_or, ni_bit1, ni_1s, nI_l, mb_eq0, mb_ne0, mb_eq1, gd_tt, gd_t, bft, e1, e_bitsOf]
    rw [if_neg (by omega)]
    simp only [sx]
    by_cases h6 : bc 11 i = 6
    · rw [if_pos h6, if_pos h6]
      cases hq : sx f i with
      | none => simp [oI, fx]
      | some b =>
        have hbl := (sx_in f hq).1
        have hlb : f b ≤ 1331 := by rw [← hf']; exact hle b
        simp only [oI, fx, nI_m1 (b := b) (by omega), ↓reduceIte]
        by_cases h4 : f i < f b
        · have h5 : nI (f i) < nI (f b) := by rw [nI_ltI (by omega) (by omega)]; omega
          simp only [h5, h4, ↓reduceIte]
        · have h5 : ¬ nI (f i) < nI (f b) := by rw [nI_ltI (by omega) (by omega)]; omega
          simp only [h5, h4, ↓reduceIte]
    · rw [if_neg h6, if_neg h6]
  · simp (disch := omega) only [F_86_25, la_0, la_1, la_2, la_3, la_4, la_15, la_16, la_17, la_18, la_19, la_20, la_23, la_24, la_25, la_26, la_27, la_28, la_31, la_35, la_36, la_37, rm_0_1 hR, rm_0_2 hR, rm_0_3 hR, rm_0_4 hR, rm_0_15 hR, rm_0_16 hR, rm_0_17 hR, rm_0_18 hR, rm_0_19 hR, rm_0_20 hR, rm_0_23 hR, rm_0_24 hR, rm_0_25 hR, rm_0_26 hR, rm_0_27 hR, rm_0_28 hR, rm_0_31 hR, rm_0_35 hR, rm_0_36 hR, rm_0_37 hR, gd_tt, oA_arr, px_obj_s, Option.bind_some, Option.map_some, Option.bind_none, eq_self, true_or, or_true, px_av_0, px_av_1, px_av_2, px_av_10, px_av_11, bn, wi_1, wi_2, wl_1, wl_21, wl_22, wr_1, wr_21, wr_22, Sum.elim_inl, Sum.elim_inr, ↓reduceIte, Nat.reduceLT, Nat.reduceLeDiff, not_false_eq_true, not_true_eq_false, Nat.reduceEqDiff, Nat.reduceAdd, reduceCtorEq, and_true, true_and, and_false, false_and, false_or, or_false, true_and, and_true, ni_divL, ni_subL, nI_add, pk_mul, nI_leI, nI_ltI, nI_eq, vp_in_eq, nI_clamp, ↓ni_tst, ni_tst2, fa_and, fa_or, ni_bit1, ni_1s, nI_l, mb_eq0, mb_ne0, mb_eq1, gd_tt, gd_t, bft, e1]
    rw [if_pos (by omega)]
    cases hq : sx f (2 ^ n) with
    | none => simp [oI]
    | some b =>
      have hbl := (sx_in f hq).1
      simp only [oI, fx, nI_m1 (b := b) (by omega), ↓reduceIte, hf']
      by_cases h1 : k = 1
      · simp [h1]
      · simp [h1]
theorem a_six (hc : cl σ n B) (v : Int32) : agQ (f_12027 tT σ 100 v) (fun τ => f_86 tT τ 0 v) n B := by
  obtain ⟨hR, ht⟩ := hc
  have hw := ht.2.2.2.1
  have hn := hw.1
  have hp := pw_le hn
  rcases rg_cases v 0 1 (by omega) with ⟨k, -, hk1, rfl⟩ | hno
  · refine ⟨match sx (fun s => lk B n s true) (2 ^ n) with | none => -1 | some b => if k = 1 then nI b else nI (lk B n b true), ?_, fun τ hm => ⟨px_wi τ 0 0 (nI 0), ?_, fr_thr (fr_rf _ _)⟩⟩
    · have hsx := c_six ht
      have hin := @sx_in (fun s => lk B n s true) (2 ^ n)
      have hmt := @c_meet σ 111 n B ht
      generalize sx (fun s => lk B n s true) (2 ^ n) = o at *
      simp (disch := omega) only [f_12027, la_100, la_102, la_103, la_104, la_105, la_110, la_111, la_112, la_113, la_114, la_115, la_116, la_117, la_120, la_121, la_122, la_123, la_124, la_125, la_126, la_127, la_130, la_131, la_132, la_133, la_134, la_135, la_136, la_137, la_140, la_141, la_142, la_143, la_144, la_145, la_146, la_147, la_150, la_151, la_152, la_153, la_160, la_161, la_170, la_171, la_172, la_173, la_174, la_180, la_181, la_182, la_183, la_184, la_185, la_186, la_190, la_191, la_192, la_193, la_194, la_195, la_200, la_201, la_202, la_210, la_211, la_212, la_213, la_214, la_215, la_216, la_217, la_218, la_219, la_220, la_221, la_222, la_223, la_224, la_225, la_226, la_230, la_231, la_232, la_233, la_234, la_240, la_241, rc_100_0 hR, rc_100_1 hR, rc_100_2 hR, rc_100_3 hR, rc_100_4 hR, rc_100_5 hR, rc_100_6 hR, rc_100_7 hR, rc_100_8 hR, rc_100_9 hR, rc_100_10 hR, rc_100_11 hR, rc_100_12 hR, rc_100_13 hR, rc_100_14 hR, rc_100_15 hR, rc_111_1 hR, rc_113_1 hR, rc_113_2 hR, rc_113_3 hR, rc_110_0 hR, rc_110_1 hR, rc_110_5 hR, rc_121_1 hR, rc_123_1 hR, rc_123_2 hR, rc_123_3 hR, rc_120_0 hR, rc_120_1 hR, rc_120_5 hR, rc_131_1 hR, rc_133_1 hR, rc_133_2 hR, rc_133_3 hR, rc_130_0 hR, rc_130_1 hR, rc_130_5 hR, rc_141_1 hR, rc_143_1 hR, rc_143_2 hR, rc_143_3 hR, rc_140_0 hR, rc_140_1 hR, rc_140_5 hR, rc_150_3 hR, rc_150_4 hR, rc_150_5 hR, rc_150_6 hR, rc_160_0 hR, rc_173_1 hR, rc_170_0 hR, rc_170_1 hR, rc_181_0 hR, rc_185_1 hR, rc_180_0 hR, rc_180_1 hR, rc_180_2 hR, rc_192_1 hR, rc_194_1 hR, rc_190_0 hR, rc_201_1 hR, rc_200_0 hR, rc_214_1 hR, rc_211_0 hR, rc_211_1 hR, rc_216_1 hR, rc_221_1 hR, rc_221_2 hR, rc_221_3 hR, rc_225_1 hR, rc_210_0 hR, rc_210_1 hR, rc_210_2 hR, rc_210_3 hR, rc_210_4 hR, rc_231_1 hR, rc_233_1 hR, rc_230_0 hR, rc_230_1 hR, rc_240_1 hR, hsx, gd_tt, oA_arr, px_obj_s, Option.bind_some, Option.map_some, Option.bind_none, eq_self, true_or, or_true, px_av_0, px_av_1, px_av_2, px_av_10, px_av_11, bn, wi_1, wi_2, wl_1, wl_21, wl_22, wr_1, wr_21, wr_22, Sum.elim_inl, Sum.elim_inr, ↓reduceIte, Nat.reduceLT, Nat.reduceLeDiff, not_false_eq_true, not_true_eq_false, Nat.reduceEqDiff, Nat.reduceAdd, reduceCtorEq, and_true, true_and, and_false, false_and, false_or, or_false, true_and, and_true, ni_divL, ni_subL, nI_add, pk_mul, nI_leI, nI_ltI, nI_eq, vp_in_eq, nI_clamp, ↓ni_tst, ni_tst2, fa_and, fa_or, ni_bit1, ni_1s, nI_l, mb_eq0, mb_ne0, mb_eq1, gd_tt, gd_t, bft]
      rw [if_neg (by omega), if_pos (by omega)]
      cases o with
      | none => simp [oI]
      | some b =>
        obtain ⟨q1, q2⟩ := hin rfl
        simp only [oI, nI_m1 (b := b) (by omega), ↓reduceIte, hmt q1 q2, Option.bind_some]
        by_cases h1 : k = 1
        · simp [h1]
        · simp [h1, show k = 0 by omega]
    · have hk := e_withinN (px_wi τ 0 0 (nI 0)) (nI k) (lo := 0) (hi := 1) (by omega) (by omega)
      rw [nI_toInt (by omega), decide_eq_true (by omega), mb_t1] at hk
      simp only [f_86, la_0, gd_tt, oA_arr, px_obj_s, Option.bind_some, Option.map_some, Option.bind_none, eq_self, true_or, or_true, px_av_0, px_av_1, px_av_2, px_av_10, px_av_11, bn, wi_1, wi_2, wl_1, wl_21, wl_22, wr_1, wr_21, wr_22, Sum.elim_inl, Sum.elim_inr, ↓reduceIte, Nat.reduceLT, Nat.reduceLeDiff, not_false_eq_true, not_true_eq_false, Nat.reduceEqDiff, Nat.reduceAdd, reduceCtorEq, and_true, true_and, and_false, false_and, false_or, or_false, hk, n10, e_six (mo_thr hm) hk1]
  · refine ⟨-2, ?_, fun τ hm => ⟨px_wi τ 0 0 (nI 0), ?_, fr_thr (fr_rf _ _)⟩⟩
    · simp only [f_12027]
      exact rg_no (by omega) (by omega) hno
    · have hk := e_withinN (px_wi τ 0 0 (nI 0)) v (lo := 0) (hi := 1) (by omega) (by omega)
      rw [decide_eq_false hno, mb_f0] at hk
      simp only [f_86, la_0, gd_tt, oA_arr, px_obj_s, Option.bind_some, Option.map_some, Option.bind_none, eq_self, true_or, or_true, px_av_0, px_av_1, px_av_2, px_av_10, px_av_11, bn, wi_1, wi_2, wl_1, wl_21, wl_22, wr_1, wr_21, wr_22, Sum.elim_inl, Sum.elim_inr, ↓reduceIte, Nat.reduceLT, Nat.reduceLeDiff, not_false_eq_true, not_true_eq_false, Nat.reduceEqDiff, Nat.reduceAdd, reduceCtorEq, and_true, true_and, and_false, false_and, false_or, or_false, hk, n10]
end
