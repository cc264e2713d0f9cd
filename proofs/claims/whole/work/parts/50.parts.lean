/-! the parts of a town -/
/-- those seen, and the parts, before j -/
def ps (n : Nat) (B : Nat → Nat) : Nat → Nat × Nat
  | 0 => (0, 0)
  | j + 1 => if (ps n B j).1.testBit j = true then ps n B j else ((ps n B j).1 ||| rc B n 11 (2 ^ j), (ps n B j).2 + 1)
def prt (n : Nat) (B : Nat → Nat) : Nat := (ps n B n).2
section
variable {σ τ : px_M} {t n : Nat} {B : Nat → Nat}
theorem ps_lt (hw : wf n B) : ∀ j, j ≤ n → (ps n B j).1 < 2048 ∧ (ps n B j).2 ≤ j := by
  intro j
  induction j with
  | zero => intro _; exact ⟨show 0 < 2048 by decide, Nat.le_refl _⟩
  | succ j ih =>
    intro hj
    obtain ⟨h1, h2⟩ := ih (by omega)
    have hn := hw.1
    simp only [ps]
    split
    · exact ⟨h1, by omega⟩
    · exact ⟨or_lt h1 (rc_lt (pw_lt (by omega)) (fun a _ => wf_2048 hw a) 11), by dsimp only; omega⟩
theorem c_parts (hc : ct σ t n B) : f_11021 tT σ t = some (nI (prt n B)) := by
  obtain ⟨l1, l2, hr, hw, h1, hnb⟩ := id hc
  have hn := hw.1
  unfold f_11021 f_11021_6
  refine lp_to (fun j => (nI (ps n B j).1, nI (ps n B j).2, nI j)) n (fun j hj => ?_) ?_ 0 (by omega)
  · have k1 := c_within hc hj (Nat.le_refl 11)
    obtain ⟨b1, b2⟩ := ps_lt hw j (by omega)
    have hjn : ¬ n ≤ j := by omega
    dsimp only
    simp only [ps]
    generalize hP : ps n B j = p at b1 b2
    obtain ⟨p1, p2⟩ := p
    dsimp only at b1 b2 ⊢
    cases hb : p1.testBit j with
    | false =>
      simp (disch := omega) only [F_11021_6, f_11021_32, l1, h1, k1, gd_tt, oA_arr, px_obj_s, Option.bind_some, Option.map_some, Option.bind_none, eq_self, true_or, or_true, px_av_0, px_av_1, px_av_2, px_av_10, px_av_11, bn, wi_1, wi_2, wl_1, wl_21, wl_22, wr_1, wr_21, wr_22, Sum.elim_inl, Sum.elim_inr, ↓reduceIte, Nat.reduceLT, Nat.reduceLeDiff, not_false_eq_true, not_true_eq_false, Nat.reduceEqDiff, Nat.reduceAdd, reduceCtorEq, and_true, true_and, and_false, false_and, false_or, or_false, true_and, and_true, ni_divL, ni_subL, nI_add, pk_mul, nI_leI, nI_ltI, nI_eq, vp_in_eq, nI_clamp, ↓ni_tst, ni_tst2, fa_and, fa_or, ni_bit1, ni_1s, nI_l, mb_eq0, mb_ne0, mb_eq1, gd_tt, gd_t, bft, hb, hjn]
    | true =>
      simp (disch := omega) only [F_11021_6, f_11021_32, l1, h1, gd_tt, oA_arr, px_obj_s, Option.bind_some, Option.map_some, Option.bind_none, eq_self, true_or, or_true, px_av_0, px_av_1, px_av_2, px_av_10, px_av_11, bn, wi_1, wi_2, wl_1, wl_21, wl_22, wr_1, wr_21, wr_22, Sum.elim_inl, Sum.elim_inr, ↓reduceIte, Nat.reduceLT, Nat.reduceLeDiff, not_false_eq_true, not_true_eq_false, Nat.reduceEqDiff, Nat.reduceAdd, reduceCtorEq, and_true, true_and, and_false, false_and, false_or, or_false, true_and, and_true, ni_divL, ni_subL, nI_add, pk_mul, nI_leI, nI_ltI, nI_eq, vp_in_eq, nI_clamp, ↓ni_tst, ni_tst2, fa_and, fa_or, ni_bit1, ni_1s, nI_l, mb_eq0, mb_ne0, mb_eq1, gd_tt, gd_t, bft, hb, hjn]
  · obtain ⟨b1, b2⟩ := ps_lt hw n (Nat.le_refl n)
    unfold prt
    generalize hP : ps n B n = p at b1 b2
    obtain ⟨p1, p2⟩ := p
    dsimp only at b1 b2 ⊢
    simp (disch := omega) only [F_11021_6, l1, h1, gd_tt, oA_arr, px_obj_s, Option.bind_some, Option.map_some, Option.bind_none, eq_self, true_or, or_true, px_av_0, px_av_1, px_av_2, px_av_10, px_av_11, bn, wi_1, wi_2, wl_1, wl_21, wl_22, wr_1, wr_21, wr_22, Sum.elim_inl, Sum.elim_inr, ↓reduceIte, Nat.reduceLT, Nat.reduceLeDiff, not_false_eq_true, not_true_eq_false, Nat.reduceEqDiff, Nat.reduceAdd, reduceCtorEq, and_true, true_and, and_false, false_and, false_or, or_false, true_and, and_true, ni_divL, ni_subL, nI_add, pk_mul, nI_leI, nI_ltI, nI_eq, vp_in_eq, nI_clamp, ↓ni_tst, ni_tst2, fa_and, fa_or, ni_bit1, ni_1s, nI_l, mb_eq0, mb_ne0, mb_eq1, gd_tt, gd_t, bft]
    try rw [if_pos (by omega)]
theorem e_parts (hm : mo σ n B) : ∃ b, f_133 tT σ 0 = some b ∧ ∃ υ, b = (nI (prt n B), υ) ∧ fr (on 15) σ υ := by
  have hw := hm.2.1
  have hn := hw.1
  unfold f_133 f_133_6
  refine lp_for (F := fun s : Int32 × Int32 × Int32 × px_M => F_133_6 tT 0 s.1 s.2.1 s.2.2.1 s.2.2.2) (fun j q => ∃ ρ, q = (nI (ps n B j).2, nI (ps n B j).1, nI j, ρ) ∧ fr (on 15) σ ρ) (fun b => ∃ υ, b = (nI (prt n B), υ) ∧ fr (on 15) σ υ) n (fun j q hj hI => ?_) (fun q hI => ?_) 0 (nI 0, nI 0, nI 0, σ) (by omega) ⟨σ, rfl, fr_rf _ _⟩
  · obtain ⟨ρ, rfl, g1⟩ := hI
    have hmρ := mo_on (by decide) g1 hm
    obtain ⟨υ, q1, q2⟩ := e_reached hmρ hj
    obtain ⟨b1, b2⟩ := ps_lt hw j (by omega)
    obtain ⟨hR, -, e1, -⟩ := id hmρ
    have hjn : ¬ n ≤ j := by omega
    simp only [ps]
    generalize hP : ps n B j = p at b1 b2
    obtain ⟨p1, p2⟩ := p
    dsimp only at b1 b2 ⊢
    have ei := e_isIn ρ (s := p1) (j := j) (by omega) (by omega)
    cases hb : p1.testBit j with
    | false =>
      rw [hb] at ei
      refine ⟨(nI (p2 + 1), nI (p1 ||| rc B n 11 (2 ^ j)), nI (j + 1), υ), ?_, υ, rfl, fr_tr g1 q2⟩
      simp (disch := omega) only [F_133_6, f_133_36, f_133_39, la_0, la_1, rm_0_1 hR, q1, gd_tt, oA_arr, px_obj_s, Option.bind_some, Option.map_some, Option.bind_none, eq_self, true_or, or_true, px_av_0, px_av_1, px_av_2, px_av_10, px_av_11, bn, wi_1, wi_2, wl_1, wl_21, wl_22, wr_1, wr_21, wr_22, Sum.elim_inl, Sum.elim_inr, ↓reduceIte, Nat.reduceLT, Nat.reduceLeDiff, not_false_eq_true, not_true_eq_false, Nat.reduceEqDiff, Nat.reduceAdd, reduceCtorEq, and_true, true_and, and_false, false_and, false_or, or_false, true_and, and_true, ni_divL, ni_subL, nI_add, pk_mul, nI_leI, nI_ltI, nI_eq, vp_in_eq, nI_clamp, ↓ni_tst, ni_tst2, fa_and, fa_or, ni_bit1, ni_1s, nI_l, mb_eq0, mb_ne0, mb_eq1, gd_tt, gd_t, bft, e1, hjn, ei, mb_f]
      rw [if_pos (by decide)]
    | true =>
      rw [hb] at ei
      refine ⟨(nI p2, nI p1, nI (j + 1), ρ), ?_, ρ, rfl, g1⟩
      simp (disch := omega) only [F_133_6, f_133_36, f_133_39, la_0, la_1, rm_0_1 hR, gd_tt, oA_arr, px_obj_s, Option.bind_some, Option.map_some, Option.bind_none, eq_self, true_or, or_true, px_av_0, px_av_1, px_av_2, px_av_10, px_av_11, bn, wi_1, wi_2, wl_1, wl_21, wl_22, wr_1, wr_21, wr_22, Sum.elim_inl, Sum.elim_inr, ↓reduceIte, Nat.reduceLT, Nat.reduceLeDiff, not_false_eq_true, not_true_eq_false, Nat.reduceEqDiff, Nat.reduceAdd, reduceCtorEq, and_true, true_and, and_false, false_and, false_or, or_false, true_and, and_true, ni_divL, ni_subL, nI_add, pk_mul, nI_leI, nI_ltI, nI_eq, vp_in_eq, nI_clamp, ↓ni_tst, ni_tst2, fa_and, fa_or, ni_bit1, ni_1s, nI_l, mb_eq0, mb_ne0, mb_eq1, gd_tt, gd_t, bft, e1, hjn, ei, mb_t]
      try rw [if_neg (by decide)]
  · obtain ⟨ρ, rfl, g1⟩ := hI
    have hmρ := mo_on (by decide) g1 hm
    obtain ⟨hR, -, e1, -⟩ := id hmρ
    refine ⟨(nI (prt n B), ρ), ?_, ρ, rfl, g1⟩
    unfold prt
    generalize ps n B n = p
    simp (disch := omega) only [F_133_6, la_0, la_1, rm_0_1 hR, gd_tt, oA_arr, px_obj_s, Option.bind_some, Option.map_some, Option.bind_none, eq_self, true_or, or_true, px_av_0, px_av_1, px_av_2, px_av_10, px_av_11, bn, wi_1, wi_2, wl_1, wl_21, wl_22, wr_1, wr_21, wr_22, Sum.elim_inl, Sum.elim_inr, ↓reduceIte, Nat.reduceLT, Nat.reduceLeDiff, not_false_eq_true, not_true_eq_false, Nat.reduceEqDiff, Nat.reduceAdd, reduceCtorEq, and_true, true_and, and_false, false_and, false_or, or_false, true_and, and_true, ni_divL, ni_subL, nI_add, pk_mul, nI_leI, nI_ltI, nI_eq, vp_in_eq, nI_clamp, ↓ni_tst, ni_tst2, fa_and, fa_or, ni_bit1, ni_1s, nI_l, mb_eq0, mb_ne0, mb_eq1, gd_tt, gd_t, bft, e1]
    try rw [if_pos (by omega)]
end
