/-! sets of three that are all neighbours, or none of them; the calmest six -/
section
variable {σ τ : px_M} {t n : Nat} {B : Nat → Nat}
def dn (B : Nat → Nat) (a b c : Nat) : Nat := ((B a).testBit b).toNat + ((B a).testBit c).toNat + ((B b).testBit c).toNat
def lv (B : Nat → Nat) (s : Nat) (both : Bool) (a b c : Nat) : Nat := if s.testBit a = true ∧ s.testBit b = true ∧ s.testBit c = true then (if dn B a b c = 0 ∨ (both = true ∧ dn B a b c = 3) then 1 else 0) else 0
def l2 (B : Nat → Nat) (n s : Nat) (both : Bool) (a b : Nat) : Nat := sm (fun c => if b < c then lv B s both a b c else 0) n
def l1 (B : Nat → Nat) (n s : Nat) (both : Bool) (a : Nat) : Nat := sm (fun b => if a < b then l2 B n s both a b else 0) n
def lk (B : Nat → Nat) (n s : Nat) (both : Bool) : Nat := sm (fun a => l1 B n s both a) n
theorem e_lk3 (hm : mo σ n B) {s : Nat} (hs : s < 2048) (both : Bool) {a b : Nat} (ha : a < n) (hb : b < n) (z : Nat) : f_84_39 tT σ 0 (nI s) (mb both) (nI a) (nI b) (nI z) (nI (b + 1)) = some (.inl (nI (z + l2 B n s both a b), nI (b + 1))) := by
  obtain ⟨hR, hw, e1, hnb⟩ := id hm
  have hn := hw.1
  have hBa := wf_2048 hw a
  have hBb := wf_2048 hw b
  have := lp_to (F := fun q : Int32 × Int32 => F_84_39 tT σ 0 (nI s) (mb both) (nI a) (nI b) q.1 q.2) (I := fun j => (nI (z + sm (fun c => if b < c then lv B s both a b c else 0) (b + 1 + j)), nI (b + 1 + j))) (b := .inl (nI (z + l2 B n s both a b), nI (b + 1))) (n - (b + 1)) (fun i hi => by
    have hbi : b < b + 1 + i := by omega
    have hin : b + 1 + i < n := by omega
    rw [show b + 1 + (i + 1) = (b + 1 + i) + 1 by omega]
    generalize b + 1 + i = j at *
    simp only [sm, if_pos hbi]
    generalize sm (fun c => if b < c then lv B s both a b c else 0) j = y
    simp (disch := omega) only [F_84_39, la_0, la_1, la_2, la_3, la_4, la_15, la_16, la_17, la_18, la_19, la_20, la_23, la_24, la_25, la_26, la_27, la_28, la_31, la_35, la_36, la_37, rm_0_1 hR, rm_0_2 hR, rm_0_3 hR, rm_0_4 hR, rm_0_15 hR, rm_0_16 hR, rm_0_17 hR, rm_0_18 hR, rm_0_19 hR, rm_0_20 hR, rm_0_23 hR, rm_0_24 hR, rm_0_25 hR, rm_0_26 hR, rm_0_27 hR, rm_0_28 hR, rm_0_31 hR, rm_0_35 hR, rm_0_36 hR, rm_0_37 hR, gd_tt, oA_arr, px_obj_s, Option.bind_some, Option.map_some, Option.bind_none, eq_self, true_or, or_true, px_av_0, px_av_1, px_av_2, px_av_10, px_av_11, bn, wi_1, wi_2, wl_1, wl_21, wl_22, wr_1, wr_21, wr_22, Sum.elim_inl, Sum.elim_inr, ↓reduceIte, Nat.reduceLT, Nat.reduceLeDiff, not_false_eq_true, not_true_eq_false, Nat.reduceEqDiff, Nat.reduceAdd, reduceCtorEq, and_true, true_and, and_false, false_and, false_or, or_false, true_and, and_true, ni_divL, ni_subL, nI_add, pk_mul, nI_leI, nI_ltI, nI_eq, vp_in_eq, nI_clamp, ↓ni_tst, ni_tst2, fa_and, fa_or, ni_bit1, ni_1s, nI_l, mb_eq0, mb_ne0, mb_eq1, gd_tt, gd_t, bft, e1, e_isIn]
    rw [if_neg (by omega)]
    cases s1 : s.testBit a
    · simp [f_84_170, lv, s1, nI_add]
    · simp (disch := omega) only [f_84_60, gd_tt, oA_arr, px_obj_s, Option.bind_some, Option.map_some, Option.bind_none, eq_self, true_or, or_true, px_av_0, px_av_1, px_av_2, px_av_10, px_av_11, bn, wi_1, wi_2, wl_1, wl_21, wl_22, wr_1, wr_21, wr_22, Sum.elim_inl, Sum.elim_inr, ↓reduceIte, Nat.reduceLT, Nat.reduceLeDiff, not_false_eq_true, not_true_eq_false, Nat.reduceEqDiff, Nat.reduceAdd, reduceCtorEq, and_true, true_and, and_false, false_and, false_or, or_false, true_and, and_true, ni_divL, ni_subL, nI_add, pk_mul, nI_leI, nI_ltI, nI_eq, vp_in_eq, nI_clamp, ↓ni_tst, ni_tst2, fa_and, fa_or, ni_bit1, ni_1s, nI_l, mb_eq0, mb_ne0, mb_eq1, gd_tt, gd_t, bft, e_isIn]
      cases s2 : s.testBit b
      · simp [f_84_170, lv, s1, s2, nI_add]
      · simp (disch := omega) only [f_84_70, gd_tt, oA_arr, px_obj_s, Option.bind_some, Option.map_some, Option.bind_none, eq_self, true_or, or_true, px_av_0, px_av_1, px_av_2, px_av_10, px_av_11, bn, wi_1, wi_2, wl_1, wl_21, wl_22, wr_1, wr_21, wr_22, Sum.elim_inl, Sum.elim_inr, ↓reduceIte, Nat.reduceLT, Nat.reduceLeDiff, not_false_eq_true, not_true_eq_false, Nat.reduceEqDiff, Nat.reduceAdd, reduceCtorEq, and_true, true_and, and_false, false_and, false_or, or_false, true_and, and_true, ni_divL, ni_subL, nI_add, pk_mul, nI_leI, nI_ltI, nI_eq, vp_in_eq, nI_clamp, ↓ni_tst, ni_tst2, fa_and, fa_or, ni_bit1, ni_1s, nI_l, mb_eq0, mb_ne0, mb_eq1, gd_tt, gd_t, bft, e_isIn]
        cases s3 : s.testBit j
        · simp [f_84_170, lv, s1, s2, s3, nI_add]
        · simp (disch := omega) only [f_84_83, f_84_98, f_84_102, f_84_147, f_84_170, la_0, la_1, la_2, la_3, la_4, la_15, la_16, la_17, la_18, la_19, la_20, la_23, la_24, la_25, la_26, la_27, la_28, la_31, la_35, la_36, la_37, gd_tt, oA_arr, px_obj_s, Option.bind_some, Option.map_some, Option.bind_none, eq_self, true_or, or_true, px_av_0, px_av_1, px_av_2, px_av_10, px_av_11, bn, wi_1, wi_2, wl_1, wl_21, wl_22, wr_1, wr_21, wr_22, Sum.elim_inl, Sum.elim_inr, ↓reduceIte, Nat.reduceLT, Nat.reduceLeDiff, not_false_eq_true, not_true_eq_false, Nat.reduceEqDiff, Nat.reduceAdd, reduceCtorEq, and_true, true_and, and_false, false_and, false_or, or_false, true_and, and_true, ni_divL, ni_subL, nI_add, pk_mul, nI_leI, nI_ltI, nI_eq, vp_in_eq, nI_clamp, ↓ni_tst, ni_tst2, fa_and, fa_or, ni_bit1, ni_1s, nI_l, mb_eq0, mb_ne0, mb_eq1, gd_tt, gd_t, bft, e_near hm, e_isIn]
          cases d1 : (B a).testBit b <;> cases d2 : (B a).testBit j <;> cases d3 : (B b).testBit j <;> cases both <;> simp [lv, s1, s2, s3, dn, d1, d2, d3, mb_t1, mb_f0, nI_add, Nat.add_assoc, nI_eq]) (by
    rw [show b + 1 + (n - (b + 1)) = n by omega]
    simp (disch := omega) only [F_84_39, la_0, la_1, la_2, la_3, la_4, la_15, la_16, la_17, la_18, la_19, la_20, la_23, la_24, la_25, la_26, la_27, la_28, la_31, la_35, la_36, la_37, rm_0_1 hR, rm_0_2 hR, rm_0_3 hR, rm_0_4 hR, rm_0_15 hR, rm_0_16 hR, rm_0_17 hR, rm_0_18 hR, rm_0_19 hR, rm_0_20 hR, rm_0_23 hR, rm_0_24 hR, rm_0_25 hR, rm_0_26 hR, rm_0_27 hR, rm_0_28 hR, rm_0_31 hR, rm_0_35 hR, rm_0_36 hR, rm_0_37 hR, gd_tt, oA_arr, px_obj_s, Option.bind_some, Option.map_some, Option.bind_none, eq_self, true_or, or_true, px_av_0, px_av_1, px_av_2, px_av_10, px_av_11, bn, wi_1, wi_2, wl_1, wl_21, wl_22, wr_1, wr_21, wr_22, Sum.elim_inl, Sum.elim_inr, ↓reduceIte, Nat.reduceLT, Nat.reduceLeDiff, not_false_eq_true, not_true_eq_false, Nat.reduceEqDiff, Nat.reduceAdd, reduceCtorEq, and_true, true_and, and_false, false_and, false_or, or_false, true_and, and_true, ni_divL, ni_subL, nI_add, pk_mul, nI_leI, nI_ltI, nI_eq, vp_in_eq, nI_clamp, ↓ni_tst, ni_tst2, fa_and, fa_or, ni_bit1, ni_1s, nI_l, mb_eq0, mb_ne0, mb_eq1, gd_tt, gd_t, bft, e1]
    rw [if_pos (by omega)]
    rfl) 0 (by omega)
  rw [Nat.add_zero, sm_lo b, Nat.add_zero] at this
  exact this
end
