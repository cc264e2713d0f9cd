/-! the class's town: what its methods answer -/
section
variable {σ : px_M} {t n : Nat} {B : Nat → Nat}
theorem c_has (hc : ct σ t n B) (v : Int32) : f_11002 tT σ t v = some (mb (decide (0 ≤ v.toInt ∧ v.toInt < n))) := by
  obtain ⟨l1, l2, hr, hw, h1, hnb⟩ := hc
  have hn := hw.1
  have hlt := wf_2048 hw
  simp only [f_11002, l1, h1, gd_tt, oA_arr, px_obj_s, Option.bind_some, Option.map_some, Option.bind_none, eq_self, true_or, or_true, px_av_0, px_av_1, px_av_2, px_av_10, px_av_11, bn, wi_1, wi_2, wl_1, wl_21, wl_22, wr_1, wr_21, wr_22, Sum.elim_inl, Sum.elim_inr, ↓reduceIte, Nat.reduceLTLE, not_false_eq_true, not_true_eq_false, Nat.reduceEqDiff, Nat.reduceAdd, reduceCtorEq, and_true, true_and, and_false, false_and, false_or, or_false]
  have e1 : (v < nI 0) = (v.toInt < 0) := propext Int32.lt_iff_toInt_lt
  have e2 : (nI n ≤ v) = ((n : Int) ≤ v.toInt) := propext (by rw [Int32.le_iff_toInt_le, nI_toInt (by omega)])
  rw [e1, e2]
  by_cases h2 : v.toInt < 0
  · rw [if_pos h2, decide_eq_false (by omega)]; rfl
  · rw [if_neg h2]
    by_cases h3 : (n : Int) ≤ v.toInt
    · rw [if_pos h3, decide_eq_false (by omega)]; rfl
    · rw [if_neg h3, decide_eq_true (by omega)]; rfl
theorem c_hasN (hc : ct σ t n B) {h : Nat} (hh : h < 2 ^ 31) : f_11002 tT σ t (nI h) = some (mb (decide (h < n))) := by
  rw [c_has hc, nI_toInt hh]
  congr 2
  exact decide_eq_decide.mpr (by omega)
theorem c_hasI (hc : ct σ t n B) {h : Nat} (hh : h < n) : f_11002 tT σ t (nI h) = some (nI 1) := by
  have := hc.2.2.2.1.1
  rw [c_hasN hc (by omega), decide_eq_true hh]; rfl
theorem c_nei (hc : ct σ t n B) {h : Nat} (hh : h < n) : f_11005 tT σ t (nI h) = some (nI (B h)) := by
  obtain ⟨l1, l2, hr, hw, h1, hnb⟩ := hc
  have hn := hw.1
  have hlt := wf_2048 hw
  simp only [f_11005, l1, l2, hr, h1, gd_tt, oA_arr, px_obj_s, Option.bind_some, Option.map_some, Option.bind_none, eq_self, true_or, or_true, px_av_0, px_av_1, px_av_2, px_av_10, px_av_11, bn, wi_1, wi_2, wl_1, wl_21, wl_22, wr_1, wr_21, wr_22, Sum.elim_inl, Sum.elim_inr, ↓reduceIte, Nat.reduceLTLE, not_false_eq_true, not_true_eq_false, Nat.reduceEqDiff, Nat.reduceAdd, reduceCtorEq, and_true, true_and, and_false, false_and, false_or, or_false]
  simp (disch := omega) only [true_and, and_true, mb_bit, mb_house, bcI_eq, px_up_row, ni_divL, ni_subL, nI_add, pk_mul, nI_leI, nI_ltI, nI_eq, vp_in_eq, nI_clamp, fa_and, fa_or, ni_bit1, ni_1s, nI_l, mb_eq0, mb_ne0, mb_eq1, gd_tt, hnb]
  rw [if_neg (by omega), if_neg (by omega)]
theorem c_all (hc : ct σ t n B) : f_11004 tT σ t = some (nI (2 ^ n - 1)) := by
  obtain ⟨l1, l2, hr, hw, h1, hnb⟩ := hc
  have hn := hw.1
  have hlt := wf_2048 hw
  have hp : 1 ≤ 2 ^ n := Nat.one_le_two_pow
  simp only [f_11004, l1, h1, gd_tt, oA_arr, px_obj_s, Option.bind_some, Option.map_some, Option.bind_none, eq_self, true_or, or_true, px_av_0, px_av_1, px_av_2, px_av_10, px_av_11, bn, wi_1, wi_2, wl_1, wl_21, wl_22, wr_1, wr_21, wr_22, Sum.elim_inl, Sum.elim_inr, ↓reduceIte, Nat.reduceLTLE, not_false_eq_true, not_true_eq_false, Nat.reduceEqDiff, Nat.reduceAdd, reduceCtorEq, and_true, true_and, and_false, false_and, false_or, or_false]
  rw [ni_1s (by omega), ni_subL hp]
theorem c_linked (hc : ct σ t n B) {a b : Nat} (ha : a < n) (hb : b < n) : f_11006 tT σ t (nI a) (nI b) = some (mb ((B a).testBit b)) := by
  have hI1 := c_hasI hc ha
  have hI2 := c_hasI hc hb
  obtain ⟨l1, l2, hr, hw, h1, hnb⟩ := hc
  have hn := hw.1
  have hlt := wf_2048 hw
  have := hlt a
  simp only [f_11006, hI1, hI2, l1, l2, hr, h1, gd_tt, oA_arr, px_obj_s, Option.bind_some, Option.map_some, Option.bind_none, eq_self, true_or, or_true, px_av_0, px_av_1, px_av_2, px_av_10, px_av_11, bn, wi_1, wi_2, wl_1, wl_21, wl_22, wr_1, wr_21, wr_22, Sum.elim_inl, Sum.elim_inr, ↓reduceIte, Nat.reduceLTLE, not_false_eq_true, not_true_eq_false, Nat.reduceEqDiff, Nat.reduceAdd, reduceCtorEq, and_true, true_and, and_false, false_and, false_or, or_false]
  simp (disch := omega) only [↓ni_tst, true_and, and_true, mb_bit, mb_house, bcI_eq, px_up_row, ni_divL, ni_subL, nI_add, pk_mul, nI_leI, nI_ltI, nI_eq, vp_in_eq, nI_clamp, fa_and, fa_or, ni_bit1, ni_1s, nI_l, mb_eq0, mb_ne0, mb_eq1, gd_tt, hnb]
  cases (B a).testBit b <;> rfl
theorem c_doorsOf (hc : ct σ t n B) {h : Nat} (hh : h < n) : f_11014 tT σ t (nI h) = some (nI (bc 11 (B h))) := by
  have h3 := c_nei hc hh
  obtain ⟨l1, l2, hr, hw, h1, hnb⟩ := hc
  have hn := hw.1
  have hlt := wf_2048 hw
  simp only [f_11014, h3, l1, gd_tt, oA_arr, px_obj_s, Option.bind_some, Option.map_some, Option.bind_none, eq_self, true_or, or_true, px_av_0, px_av_1, px_av_2, px_av_10, px_av_11, bn, wi_1, wi_2, wl_1, wl_21, wl_22, wr_1, wr_21, wr_22, Sum.elim_inl, Sum.elim_inr, ↓reduceIte, Nat.reduceLTLE, not_false_eq_true, not_true_eq_false, Nat.reduceEqDiff, Nat.reduceAdd, reduceCtorEq, and_true, true_and, and_false, false_and, false_or, or_false]
  rw [e_bitCount σ (hlt h)]; rfl
theorem c_doors (hc : ct σ t n B) : f_11015 tT σ t = some (nI (sm (fun h => bc 11 (B h)) n / 2)) := by
  obtain ⟨l1, l2, hr, hw, h1, hnb⟩ := hc
  have hn := hw.1
  have hlt := wf_2048 hw
  have hb : ∀ m, sm (fun h => bc 11 (B h)) m ≤ 11 * m := sm_le (fun j => bc_le 11 _)
  unfold f_11015 f_11015_4
  refine lp_to (I := fun j => (nI (sm (fun h => bc 11 (B h)) j), nI j)) n (fun i hi => ?_) ?_ 0 (by omega)
  · have := hb i
    simp only [F_11015_4, l1, l2, hr, h1, gd_tt, oA_arr, px_obj_s, Option.bind_some, Option.map_some, Option.bind_none, eq_self, true_or, or_true, px_av_0, px_av_1, px_av_2, px_av_10, px_av_11, bn, wi_1, wi_2, wl_1, wl_21, wl_22, wr_1, wr_21, wr_22, Sum.elim_inl, Sum.elim_inr, ↓reduceIte, Nat.reduceLTLE, not_false_eq_true, not_true_eq_false, Nat.reduceEqDiff, Nat.reduceAdd, reduceCtorEq, and_true, true_and, and_false, false_and, false_or, or_false]
    simp (disch := omega) only [true_and, and_true, mb_bit, mb_house, bcI_eq, px_up_row, ni_divL, ni_subL, nI_add, pk_mul, nI_leI, nI_ltI, nI_eq, vp_in_eq, nI_clamp, fa_and, fa_or, ni_bit1, ni_1s, nI_l, mb_eq0, mb_ne0, mb_eq1, gd_tt, hnb]
    rw [if_neg (by omega), e_bitCount σ (hlt i)]
    simp only [gd_tt, oA_arr, px_obj_s, Option.bind_some, Option.map_some, Option.bind_none, eq_self, true_or, or_true, px_av_0, px_av_1, px_av_2, px_av_10, px_av_11, bn, wi_1, wi_2, wl_1, wl_21, wl_22, wr_1, wr_21, wr_22, Sum.elim_inl, Sum.elim_inr, ↓reduceIte, Nat.reduceLTLE, not_false_eq_true, not_true_eq_false, Nat.reduceEqDiff, Nat.reduceAdd, reduceCtorEq, and_true, true_and, and_false, false_and, false_or, or_false, nI_add]; rfl
  · have := hb n
    simp only [F_11015_4, l1, l2, hr, h1, gd_tt, oA_arr, px_obj_s, Option.bind_some, Option.map_some, Option.bind_none, eq_self, true_or, or_true, px_av_0, px_av_1, px_av_2, px_av_10, px_av_11, bn, wi_1, wi_2, wl_1, wl_21, wl_22, wr_1, wr_21, wr_22, Sum.elim_inl, Sum.elim_inr, ↓reduceIte, Nat.reduceLTLE, not_false_eq_true, not_true_eq_false, Nat.reduceEqDiff, Nat.reduceAdd, reduceCtorEq, and_true, true_and, and_false, false_and, false_or, or_false]
    simp (disch := omega) only [true_and, and_true, mb_bit, mb_house, bcI_eq, px_up_row, ni_divL, ni_subL, nI_add, pk_mul, nI_leI, nI_ltI, nI_eq, vp_in_eq, nI_clamp, fa_and, fa_or, ni_bit1, ni_1s, nI_l, mb_eq0, mb_ne0, mb_eq1, gd_tt]
    rw [if_pos (by omega), gd_t (by decide)]
theorem c_around (hc : ct σ t n B) {s : Nat} (hs : s < 2048) : f_11016 tT σ t (nI s) = some (nI (ar B n s)) := by
  obtain ⟨l1, l2, hr, hw, h1, hnb⟩ := hc
  have hn := hw.1
  have hlt := wf_2048 hw
  unfold f_11016 f_11016_4
  refine lp_to (I := fun j => (nI (ar B j s), nI j)) n (fun i hi => ?_) ?_ 0 (by omega)
  · simp only [F_11016_4, l1, l2, hr, h1, gd_tt, oA_arr, px_obj_s, Option.bind_some, Option.map_some, Option.bind_none, eq_self, true_or, or_true, px_av_0, px_av_1, px_av_2, px_av_10, px_av_11, bn, wi_1, wi_2, wl_1, wl_21, wl_22, wr_1, wr_21, wr_22, Sum.elim_inl, Sum.elim_inr, ↓reduceIte, Nat.reduceLTLE, not_false_eq_true, not_true_eq_false, Nat.reduceEqDiff, Nat.reduceAdd, reduceCtorEq, and_true, true_and, and_false, false_and, false_or, or_false]
    simp (disch := omega) only [↓ni_tst, true_and, and_true, mb_bit, mb_house, bcI_eq, px_up_row, ni_divL, ni_subL, nI_add, pk_mul, nI_leI, nI_ltI, nI_eq, vp_in_eq, nI_clamp, fa_and, fa_or, ni_bit1, ni_1s, nI_l, mb_eq0, mb_ne0, mb_eq1, gd_tt, hnb]
    rw [if_neg (by omega)]
    cases h2 : s.testBit i
    · simp [ar, h2]
    · simp [ar, h2]
  · simp only [F_11016_4, l1, l2, hr, h1, gd_tt, oA_arr, px_obj_s, Option.bind_some, Option.map_some, Option.bind_none, eq_self, true_or, or_true, px_av_0, px_av_1, px_av_2, px_av_10, px_av_11, bn, wi_1, wi_2, wl_1, wl_21, wl_22, wr_1, wr_21, wr_22, Sum.elim_inl, Sum.elim_inr, ↓reduceIte, Nat.reduceLTLE, not_false_eq_true, not_true_eq_false, Nat.reduceEqDiff, Nat.reduceAdd, reduceCtorEq, and_true, true_and, and_false, false_and, false_or, or_false]
    simp (disch := omega) only [true_and, and_true, mb_bit, mb_house, bcI_eq, px_up_row, ni_divL, ni_subL, nI_add, pk_mul, nI_leI, nI_ltI, nI_eq, vp_in_eq, nI_clamp, fa_and, fa_or, ni_bit1, ni_1s, nI_l, mb_eq0, mb_ne0, mb_eq1, gd_tt]
    rw [if_pos (by omega)]
end
