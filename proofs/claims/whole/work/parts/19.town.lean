/-! the class's town: what its methods answer -/
theorem bt_m2 : ∀ j, j < 32 → bt (-2) j = decide (1 ≤ j) := by decide +kernel
/-- those of a set behind b -/
def ab (b s : Nat) : Nat := nd s (2 ^ (b + 1) - 1)
theorem ab_tb {b s : Nat} (hs : s < 2048) (j : Nat) : (ab b s).testBit j = (s.testBit j && decide (b < j)) := by
  unfold ab
  rw [nd_tb hs, Nat.testBit_two_pow_sub_one]
  congr 1
  by_cases h : j < b + 1
  · simp [h]; omega
  · simp [h]; omega
theorem ab_lt {b s : Nat} (hs : s < 2048) : ab b s < 2048 := nd_lt hs
theorem ni_ab {b s : Nat} (hs : s < 2048) (hb : b < 31) : nI s &&& ((-2) <<< (nI b &&& 31)) = nI (ab b s) := by
  apply b_ext
  intro i hi
  rw [b_and, b_shl b (by omega) _ hi, bt_nI, bt_nI, ab_tb hs]
  by_cases h1 : b ≤ i
  · rw [bt_m2 (i - b) (by omega)]
    simp [hi, h1]
    cases s.testBit i <;> simp
    omega
  · simp [hi, h1]
    intro _
    omega
theorem sm_lo (a : Nat) (g : Nat → Nat) : sm (fun b => if a < b then g b else 0) (a + 1) = 0 := by
  rw [sm_congr (g := fun _ => 0) (fun j hj => by rw [if_neg (by omega)]), sm_0]
/-- pairs of two sets' common ones -/
def c2 (b : Nat) : Nat := b * (b - 1) / 2
theorem c2_le : ∀ b, b < 12 → c2 b ≤ 55 := by decide
theorem ni_c2 : ∀ b, b < 12 → (nI b * (nI b - nI 1)) / nI 2 = nI (c2 b) := by decide
theorem ni_n0 : ¬ nI 2 = nI 0 := by decide
theorem ni_n3 : ¬ nI 3 = nI 0 := by decide
theorem ni_n4 : ¬ nI 4 = nI 0 := by decide
theorem ni_n100 : ¬ nI 100 = nI 0 := by decide
/-- pairs of neighbours of a house that are neighbours, twice; rounds of four through a house -/
def th2 (n : Nat) (B : Nat → Nat) (h : Nat) : Nat := sm (fun a => if (B h).testBit a then bc 11 (B h &&& B a) else 0) n
def fo1 (n : Nat) (B : Nat → Nat) (h : Nat) : Nat := sm (fun o => if o = h then 0 else c2 (bc 11 (B h &&& B o))) n
def dm (n : Nat) (B : Nat → Nat) : Nat := sm (fun h => bc 11 (B h)) n / 2
def tm (n : Nat) (B : Nat → Nat) : Nat := sm (fun h => th2 n B h / 2) n / 3
section
variable {σ : px_M} {t n : Nat} {B : Nat → Nat}
theorem th2_le (h m : Nat) : sm (fun a => if (B h).testBit a then bc 11 (B h &&& B a) else 0) m ≤ 11 * m := sm_le (fun j => by split <;> first | exact bc_le 11 _ | omega) m
theorem fo1_le (h m : Nat) : sm (fun o => if o = h then 0 else c2 (bc 11 (B h &&& B o))) m ≤ 55 * m := sm_le (fun j => by
  split
  · omega
  · exact c2_le _ (by have := bc_le 11 (B h &&& B j); omega)) m
theorem c_has (hc : ct σ t n B) (v : Int32) : f_11002 tT σ t v = some (mb (decide (0 ≤ v.toInt ∧ v.toInt < n))) := by
  obtain ⟨l1, l2, hr, hw, h1, hnb⟩ := hc
  have hn := hw.1
  simp only [f_11002, l1, h1, gd_tt, oA_arr, px_obj_s, Option.bind_some, Option.map_some, Option.bind_none, eq_self, true_or, or_true, px_av_0, px_av_1, px_av_2, px_av_10, px_av_11, bn, wi_1, wi_2, wl_1, wl_21, wl_22, wr_1, wr_21, wr_22, Sum.elim_inl, Sum.elim_inr, ↓reduceIte, Nat.reduceLT, Nat.reduceLeDiff, not_false_eq_true, not_true_eq_false, Nat.reduceEqDiff, Nat.reduceAdd, reduceCtorEq, and_true, true_and, and_false, false_and, false_or, or_false]
  by_cases h2 : v.toInt < 0
  · rw [if_pos (Int32.lt_iff_toInt_lt.mpr h2), decide_eq_false (by omega)]; rfl
  · rw [if_neg (fun q => h2 (Int32.lt_iff_toInt_lt.mp q))]
    by_cases h3 : (n : Int) ≤ v.toInt
    · rw [if_pos (by rw [Int32.le_iff_toInt_le, nI_toInt (by omega)]; exact h3), decide_eq_false (by omega)]; rfl
    · rw [if_neg (fun q => h3 (by rw [Int32.le_iff_toInt_le, nI_toInt (by omega)] at q; exact q)), decide_eq_true (by omega)]; rfl
theorem c_hasN (hc : ct σ t n B) {h : Nat} (hh : h < 2 ^ 31) : f_11002 tT σ t (nI h) = some (mb (decide (h < n))) := by
  rw [c_has hc, nI_toInt hh]
  congr 2
  exact decide_eq_decide.mpr (by omega)
theorem c_hasI (hc : ct σ t n B) {h : Nat} (hh : h < n) : f_11002 tT σ t (nI h) = some (nI 1) := by
  have := hc.2.2.2.1.1
  rw [c_hasN hc (by omega), decide_eq_true hh]; rfl
theorem c_nei (hc : ct σ t n B) {h : Nat} (hh : h < n) : f_11005 tT σ t (nI h) = some (nI (B h)) := by
  obtain ⟨l1, l2, hr, hw, h1, hnb⟩ := hc
  have hn := hw.1
  simp (disch := omega) only [f_11005, l1, l2, hr, h1, gd_tt, oA_arr, px_obj_s, Option.bind_some, Option.map_some, Option.bind_none, eq_self, true_or, or_true, px_av_0, px_av_1, px_av_2, px_av_10, px_av_11, bn, wi_1, wi_2, wl_1, wl_21, wl_22, wr_1, wr_21, wr_22, Sum.elim_inl, Sum.elim_inr, ↓reduceIte, Nat.reduceLT, Nat.reduceLeDiff, not_false_eq_true, not_true_eq_false, Nat.reduceEqDiff, Nat.reduceAdd, reduceCtorEq, and_true, true_and, and_false, false_and, false_or, or_false, true_and, and_true, ni_divL, ni_subL, nI_add, pk_mul, nI_leI, nI_ltI, nI_eq, vp_in_eq, nI_clamp, ↓ni_tst, ni_tst2, fa_and, fa_or, ni_bit1, ni_1s, nI_l, mb_eq0, mb_ne0, mb_eq1, gd_tt, gd_t, bft, hnb]
  rw [if_neg (by omega), if_neg (by omega)]
theorem c_all (hc : ct σ t n B) : f_11004 tT σ t = some (nI (2 ^ n - 1)) := by
  obtain ⟨l1, l2, hr, hw, h1, hnb⟩ := hc
  have hn := hw.1
  have hp : 1 ≤ 2 ^ n := Nat.one_le_two_pow
  simp only [f_11004, l1, h1, gd_tt, oA_arr, px_obj_s, Option.bind_some, Option.map_some, Option.bind_none, eq_self, true_or, or_true, px_av_0, px_av_1, px_av_2, px_av_10, px_av_11, bn, wi_1, wi_2, wl_1, wl_21, wl_22, wr_1, wr_21, wr_22, Sum.elim_inl, Sum.elim_inr, ↓reduceIte, Nat.reduceLT, Nat.reduceLeDiff, not_false_eq_true, not_true_eq_false, Nat.reduceEqDiff, Nat.reduceAdd, reduceCtorEq, and_true, true_and, and_false, false_and, false_or, or_false]
  rw [ni_1s (by omega), ni_subL hp]
theorem c_linked (hc : ct σ t n B) {a b : Nat} (ha : a < n) (hb : b < n) : f_11006 tT σ t (nI a) (nI b) = some (mb ((B a).testBit b)) := by
  have hI1 := c_hasI hc ha
  have hI2 := c_hasI hc hb
  obtain ⟨l1, l2, hr, hw, h1, hnb⟩ := hc
  have hn := hw.1
  have := wf_2048 hw a
  simp (disch := omega) only [f_11006, f_11006_33, hI1, hI2, l1, l2, hr, h1, gd_tt, oA_arr, px_obj_s, Option.bind_some, Option.map_some, Option.bind_none, eq_self, true_or, or_true, px_av_0, px_av_1, px_av_2, px_av_10, px_av_11, bn, wi_1, wi_2, wl_1, wl_21, wl_22, wr_1, wr_21, wr_22, Sum.elim_inl, Sum.elim_inr, ↓reduceIte, Nat.reduceLT, Nat.reduceLeDiff, not_false_eq_true, not_true_eq_false, Nat.reduceEqDiff, Nat.reduceAdd, reduceCtorEq, and_true, true_and, and_false, false_and, false_or, or_false, true_and, and_true, ni_divL, ni_subL, nI_add, pk_mul, nI_leI, nI_ltI, nI_eq, vp_in_eq, nI_clamp, ↓ni_tst, ni_tst2, fa_and, fa_or, ni_bit1, ni_1s, nI_l, mb_eq0, mb_ne0, mb_eq1, gd_tt, gd_t, bft, hnb]
  cases (B a).testBit b <;> rfl
theorem c_isPair (hc : ct σ t n B) {a b : Nat} (ha : a < 2 ^ 31) (hb : b < 2 ^ 31) : f_11003 tT σ t (nI a) (nI b) = some (mb (decide (a < n ∧ b < n ∧ a ≠ b))) := by
  have hI1 := c_hasN hc ha
  have hI2 := c_hasN hc hb
  obtain ⟨l1, l2, hr, hw, h1, hnb⟩ := hc
  simp (disch := omega) only [f_11003, f_11003_25, hI1, hI2, l1, gd_tt, oA_arr, px_obj_s, Option.bind_some, Option.map_some, Option.bind_none, eq_self, true_or, or_true, px_av_0, px_av_1, px_av_2, px_av_10, px_av_11, bn, wi_1, wi_2, wl_1, wl_21, wl_22, wr_1, wr_21, wr_22, Sum.elim_inl, Sum.elim_inr, ↓reduceIte, Nat.reduceLT, Nat.reduceLeDiff, not_false_eq_true, not_true_eq_false, Nat.reduceEqDiff, Nat.reduceAdd, reduceCtorEq, and_true, true_and, and_false, false_and, false_or, or_false, true_and, and_true, ni_divL, ni_subL, nI_add, pk_mul, nI_leI, nI_ltI, nI_eq, vp_in_eq, nI_clamp, ↓ni_tst, ni_tst2, fa_and, fa_or, ni_bit1, ni_1s, nI_l, mb_eq0, mb_ne0, mb_eq1, gd_tt, gd_t, bft]
  by_cases h1 : a < n
  · by_cases h2 : b < n
    · by_cases h3 : a = b
      · simp [h1, h2, h3, mb_t1, mb_f0]
      · simp [h1, h2, h3, mb_t1, mb_f0]
    · simp [h1, h2, mb_t1, mb_f0]
  · simp [h1, mb_t1, mb_f0]
theorem c_doorsOf (hc : ct σ t n B) {h : Nat} (hh : h < n) : f_11014 tT σ t (nI h) = some (nI (bc 11 (B h))) := by
  have h3 := c_nei hc hh
  obtain ⟨l1, l2, hr, hw, h1, hnb⟩ := hc
  simp only [f_11014, h3, l1, gd_tt, oA_arr, px_obj_s, Option.bind_some, Option.map_some, Option.bind_none, eq_self, true_or, or_true, px_av_0, px_av_1, px_av_2, px_av_10, px_av_11, bn, wi_1, wi_2, wl_1, wl_21, wl_22, wr_1, wr_21, wr_22, Sum.elim_inl, Sum.elim_inr, ↓reduceIte, Nat.reduceLT, Nat.reduceLeDiff, not_false_eq_true, not_true_eq_false, Nat.reduceEqDiff, Nat.reduceAdd, reduceCtorEq, and_true, true_and, and_false, false_and, false_or, or_false]
  rw [e_bitCount σ (wf_2048 hw h)]
  rfl
theorem c_doors (hc : ct σ t n B) : f_11015 tT σ t = some (nI (dm n B)) := by
  obtain ⟨l1, l2, hr, hw, h1, hnb⟩ := hc
  have hn := hw.1
  have hlt := wf_2048 hw
  have hb : ∀ m, sm (fun h => bc 11 (B h)) m ≤ 11 * m := sm_le (fun j => bc_le 11 _)
  unfold f_11015 f_11015_4
  refine lp_to (I := fun j => (nI (sm (fun h => bc 11 (B h)) j), nI j)) n (fun i hi => ?_) ?_ 0 (by omega)
  · have := hb i
    have := hlt i
    simp (disch := omega) only [F_11015_4, f_11015_24, l1, l2, hr, h1, gd_tt, oA_arr, px_obj_s, Option.bind_some, Option.map_some, Option.bind_none, eq_self, true_or, or_true, px_av_0, px_av_1, px_av_2, px_av_10, px_av_11, bn, wi_1, wi_2, wl_1, wl_21, wl_22, wr_1, wr_21, wr_22, Sum.elim_inl, Sum.elim_inr, ↓reduceIte, Nat.reduceLT, Nat.reduceLeDiff, not_false_eq_true, not_true_eq_false, Nat.reduceEqDiff, Nat.reduceAdd, reduceCtorEq, and_true, true_and, and_false, false_and, false_or, or_false, true_and, and_true, ni_divL, ni_subL, nI_add, pk_mul, nI_leI, nI_ltI, nI_eq, vp_in_eq, nI_clamp, ↓ni_tst, ni_tst2, fa_and, fa_or, ni_bit1, ni_1s, nI_l, mb_eq0, mb_ne0, mb_eq1, gd_tt, gd_t, bft, hnb, e_bitCount]
    rw [if_neg (by omega)]; rfl
  · have := hb n
    simp (disch := omega) only [F_11015_4, f_11015_24, l1, l2, hr, h1, gd_tt, oA_arr, px_obj_s, Option.bind_some, Option.map_some, Option.bind_none, eq_self, true_or, or_true, px_av_0, px_av_1, px_av_2, px_av_10, px_av_11, bn, wi_1, wi_2, wl_1, wl_21, wl_22, wr_1, wr_21, wr_22, Sum.elim_inl, Sum.elim_inr, ↓reduceIte, Nat.reduceLT, Nat.reduceLeDiff, not_false_eq_true, not_true_eq_false, Nat.reduceEqDiff, Nat.reduceAdd, reduceCtorEq, and_true, true_and, and_false, false_and, false_or, or_false, true_and, and_true, ni_divL, ni_subL, nI_add, pk_mul, nI_leI, nI_ltI, nI_eq, vp_in_eq, nI_clamp, ↓ni_tst, ni_tst2, fa_and, fa_or, ni_bit1, ni_1s, nI_l, mb_eq0, mb_ne0, mb_eq1, gd_tt, gd_t, bft]
    rw [if_pos (by omega)]; rfl
theorem c_around (hc : ct σ t n B) {s : Nat} (hs : s < 2048) : f_11016 tT σ t (nI s) = some (nI (ar B n s)) := by
  obtain ⟨l1, l2, hr, hw, h1, hnb⟩ := hc
  have hn := hw.1
  have hlt := wf_2048 hw
  unfold f_11016 f_11016_4
  refine lp_to (I := fun j => (nI (ar B j s), nI j)) n (fun i hi => ?_) ?_ 0 (by omega)
  · simp (disch := omega) only [F_11016_4, l1, l2, hr, h1, gd_tt, oA_arr, px_obj_s, Option.bind_some, Option.map_some, Option.bind_none, eq_self, true_or, or_true, px_av_0, px_av_1, px_av_2, px_av_10, px_av_11, bn, wi_1, wi_2, wl_1, wl_21, wl_22, wr_1, wr_21, wr_22, Sum.elim_inl, Sum.elim_inr, ↓reduceIte, Nat.reduceLT, Nat.reduceLeDiff, not_false_eq_true, not_true_eq_false, Nat.reduceEqDiff, Nat.reduceAdd, reduceCtorEq, and_true, true_and, and_false, false_and, false_or, or_false, true_and, and_true, ni_divL, ni_subL, nI_add, pk_mul, nI_leI, nI_ltI, nI_eq, vp_in_eq, nI_clamp, ↓ni_tst, ni_tst2, fa_and, fa_or, ni_bit1, ni_1s, nI_l, mb_eq0, mb_ne0, mb_eq1, gd_tt, gd_t, bft, hnb]
    rw [if_neg (by omega)]
    cases h2 : s.testBit i
    · simp [ar, h2]
    · simp [ar, h2]
  · simp (disch := omega) only [F_11016_4, l1, l2, hr, h1, gd_tt, oA_arr, px_obj_s, Option.bind_some, Option.map_some, Option.bind_none, eq_self, true_or, or_true, px_av_0, px_av_1, px_av_2, px_av_10, px_av_11, bn, wi_1, wi_2, wl_1, wl_21, wl_22, wr_1, wr_21, wr_22, Sum.elim_inl, Sum.elim_inr, ↓reduceIte, Nat.reduceLT, Nat.reduceLeDiff, not_false_eq_true, not_true_eq_false, Nat.reduceEqDiff, Nat.reduceAdd, reduceCtorEq, and_true, true_and, and_false, false_and, false_or, or_false, true_and, and_true, ni_divL, ni_subL, nI_add, pk_mul, nI_leI, nI_ltI, nI_eq, vp_in_eq, nI_clamp, ↓ni_tst, ni_tst2, fa_and, fa_or, ni_bit1, ni_1s, nI_l, mb_eq0, mb_ne0, mb_eq1, gd_tt, gd_t, bft]
    rw [if_pos (by omega)]
theorem c_within (hc : ct σ t n B) {h m : Nat} (hh : h < n) (hm : m ≤ 11) : f_11017 tT σ t (nI h) (nI m) = some (nI (rc B n m (2 ^ h))) := by
  have hI1 := c_hasI hc hh
  have har := @c_around σ t n B hc
  obtain ⟨l1, l2, hr, hw, h1, hnb⟩ := hc
  have hn := hw.1
  have hltn : ∀ j, j < n → B j < 2048 := fun j _ => wf_2048 hw j
  simp (disch := omega) only [f_11017, hI1, l1, gd_tt, oA_arr, px_obj_s, Option.bind_some, Option.map_some, Option.bind_none, eq_self, true_or, or_true, px_av_0, px_av_1, px_av_2, px_av_10, px_av_11, bn, wi_1, wi_2, wl_1, wl_21, wl_22, wr_1, wr_21, wr_22, Sum.elim_inl, Sum.elim_inr, ↓reduceIte, Nat.reduceLT, Nat.reduceLeDiff, not_false_eq_true, not_true_eq_false, Nat.reduceEqDiff, Nat.reduceAdd, reduceCtorEq, and_true, true_and, and_false, false_and, false_or, or_false, true_and, and_true, ni_divL, ni_subL, nI_add, pk_mul, nI_leI, nI_ltI, nI_eq, vp_in_eq, nI_clamp, ↓ni_tst, ni_tst2, fa_and, fa_or, ni_bit1, ni_1s, nI_l, mb_eq0, mb_ne0, mb_eq1, gd_tt, gd_t, bft]
  unfold f_11017_19
  refine lp_to (I := fun j => (nI (rc B n j (2 ^ h)), nI j)) m (fun i hi => ?_) ?_ 0 (by omega)
  · have := rc_lt (pw_lt (show h < 11 by omega)) hltn i
    simp (disch := omega) only [F_11017_19, f_11017_40, l1, gd_tt, oA_arr, px_obj_s, Option.bind_some, Option.map_some, Option.bind_none, eq_self, true_or, or_true, px_av_0, px_av_1, px_av_2, px_av_10, px_av_11, bn, wi_1, wi_2, wl_1, wl_21, wl_22, wr_1, wr_21, wr_22, Sum.elim_inl, Sum.elim_inr, ↓reduceIte, Nat.reduceLT, Nat.reduceLeDiff, not_false_eq_true, not_true_eq_false, Nat.reduceEqDiff, Nat.reduceAdd, reduceCtorEq, and_true, true_and, and_false, false_and, false_or, or_false, true_and, and_true, ni_divL, ni_subL, nI_add, pk_mul, nI_leI, nI_ltI, nI_eq, vp_in_eq, nI_clamp, ↓ni_tst, ni_tst2, fa_and, fa_or, ni_bit1, ni_1s, nI_l, mb_eq0, mb_ne0, mb_eq1, gd_tt, gd_t, bft, har]
    rw [if_neg (by omega), if_neg (by omega)]
    rfl
  · simp (disch := omega) only [F_11017_19, f_11017_40, l1, gd_tt, oA_arr, px_obj_s, Option.bind_some, Option.map_some, Option.bind_none, eq_self, true_or, or_true, px_av_0, px_av_1, px_av_2, px_av_10, px_av_11, bn, wi_1, wi_2, wl_1, wl_21, wl_22, wr_1, wr_21, wr_22, Sum.elim_inl, Sum.elim_inr, ↓reduceIte, Nat.reduceLT, Nat.reduceLeDiff, not_false_eq_true, not_true_eq_false, Nat.reduceEqDiff, Nat.reduceAdd, reduceCtorEq, and_true, true_and, and_false, false_and, false_or, or_false, true_and, and_true, ni_divL, ni_subL, nI_add, pk_mul, nI_leI, nI_ltI, nI_eq, vp_in_eq, nI_clamp, ↓ni_tst, ni_tst2, fa_and, fa_or, ni_bit1, ni_1s, nI_l, mb_eq0, mb_ne0, mb_eq1, gd_tt, gd_t, bft]
    rw [if_pos (by omega)]
theorem ly_2 (hw : wf n B) {h : Nat} (hh : h < n) : ly B n h 2 = nd (nd (ar B n (B h)) (B h)) (2 ^ h) := by
  have hltn : ∀ j, j < n → B j < 2048 := fun j _ => wf_2048 hw j
  have hh11 : h < 11 := Nat.lt_of_lt_of_le hh hw.1
  have hal : ar B n (B h) < 2048 := ar_lt hltn
  apply tb_eq
  intro i
  rw [ly_wk hw hh, nd_tb (nd_lt hal), nd_tb hal, Nat.testBit_two_pow]
  simp only [Bool.and_eq_true, Bool.not_eq_true', decide_eq_false_iff_not]
  have e1 : ∀ x, (wk B n h 1).testBit x = true ↔ (B h).testBit x = true := fun x => by
    rw [wk_front hw 0 h x]
    constructor
    · rintro ⟨y, y1, y2⟩; rw [(wk_0 y x).mp y2]; exact y1
    · intro q; exact ⟨x, q, (wk_0 x x).mpr rfl⟩
  constructor
  · rintro ⟨h1, h2⟩
    obtain ⟨x, x1, x2, x3⟩ := (wk_S h 1 i).mp h1
    refine ⟨⟨ar_tb.mpr ⟨x, x1, (e1 x).mp x2, x3⟩, ?_⟩, ?_⟩
    · have := h2 1 (by omega)
      cases hb : (B h).testBit i with
      | false => rfl
      | true => rw [(e1 i).mpr hb] at this; cases this
    · intro q
      have := h2 0 (by omega)
      rw [(wk_0 h i).mpr q.symm] at this
      cases this
  · rintro ⟨⟨h1, h2⟩, h3⟩
    obtain ⟨x, x1, x2, x3⟩ := ar_tb.mp h1
    refine ⟨(wk_S h 1 i).mpr ⟨x, x1, (e1 x).mpr x2, x3⟩, fun j hj => ?_⟩
    have : j = 0 ∨ j = 1 := by omega
    rcases this with rfl | rfl
    · cases hb : (wk B n h 0).testBit i with
      | false => rfl
      | true => exact absurd ((wk_0 h i).mp hb).symm h3
    · cases hb : (wk B n h 1).testBit i with
      | false => rfl
      | true => rw [(e1 i).mp hb] at h2; cases h2
theorem c_twoSteps (hc : ct σ t n B) {h : Nat} (hh : h < n) : f_11018 tT σ t (nI h) = some (nI (ly B n h 2)) := by
  have hN := c_nei hc hh
  have har := @c_around σ t n B hc
  obtain ⟨l1, l2, hr, hw, h1, hnb⟩ := hc
  have hn := hw.1
  have hltn : ∀ j, j < n → B j < 2048 := fun j _ => wf_2048 hw j
  have hal : ar B n (B h) < 2048 := ar_lt hltn
  have hB := wf_2048 hw h
  have hnd : nd (ar B n (B h)) (B h) < 2048 := nd_lt hal
  rw [ly_2 hw hh]
  simp (disch := omega) only [f_11018, hN, l1, gd_tt, oA_arr, px_obj_s, Option.bind_some, Option.map_some, Option.bind_none, eq_self, true_or, or_true, px_av_0, px_av_1, px_av_2, px_av_10, px_av_11, bn, wi_1, wi_2, wl_1, wl_21, wl_22, wr_1, wr_21, wr_22, Sum.elim_inl, Sum.elim_inr, ↓reduceIte, Nat.reduceLT, Nat.reduceLeDiff, not_false_eq_true, not_true_eq_false, Nat.reduceEqDiff, Nat.reduceAdd, reduceCtorEq, and_true, true_and, and_false, false_and, false_or, or_false, true_and, and_true, ni_divL, ni_subL, nI_add, pk_mul, nI_leI, nI_ltI, nI_eq, vp_in_eq, nI_clamp, ↓ni_tst, ni_tst2, fa_and, fa_or, ni_bit1, ni_1s, nI_l, mb_eq0, mb_ne0, mb_eq1, gd_tt, gd_t, bft, har, ni_nd]
theorem c_farthest (hc : ct σ t n B) {h : Nat} (hh : h < n) : f_11019 tT σ t (nI h) = some (nI (ec n B h)) := by
  have hI1 := c_hasI hc hh
  have har := @c_around σ t n B hc
  obtain ⟨l1, l2, hr, hw, h1, hnb⟩ := hc
  have hn := hw.1
  have hltn : ∀ j, j < n → B j < 2048 := fun j _ => wf_2048 hw j
  have hh11 : h < 11 := by omega
  obtain ⟨e1, e2, e3⟩ := ec_spec hw hh
  have hly : ∀ m, nd (ar B n (rc B n m (2 ^ h))) (rc B n m (2 ^ h)) = ly B n h (m + 1) := by
    intro m
    apply tb_eq
    intro i
    simp only [ly]
    rw [nd_tb (ar_lt hltn), nd_tb (rc_lt (pw_lt hh11) hltn (m + 1))]
    simp only [rc, Nat.testBit_or, Bool.and_eq_true, Bool.or_eq_true, Bool.not_eq_true']
    constructor
    · rintro ⟨q1, q2⟩; exact ⟨Or.inr q1, q2⟩
    · rintro ⟨q1 | q1, q2⟩
      · rw [q2] at q1; cases q1
      · exact ⟨q1, q2⟩
  simp (disch := omega) only [f_11019, hI1, l1, gd_tt, oA_arr, px_obj_s, Option.bind_some, Option.map_some, Option.bind_none, eq_self, true_or, or_true, px_av_0, px_av_1, px_av_2, px_av_10, px_av_11, bn, wi_1, wi_2, wl_1, wl_21, wl_22, wr_1, wr_21, wr_22, Sum.elim_inl, Sum.elim_inr, ↓reduceIte, Nat.reduceLT, Nat.reduceLeDiff, not_false_eq_true, not_true_eq_false, Nat.reduceEqDiff, Nat.reduceAdd, reduceCtorEq, and_true, true_and, and_false, false_and, false_or, or_false, true_and, and_true, ni_divL, ni_subL, nI_add, pk_mul, nI_leI, nI_ltI, nI_eq, vp_in_eq, nI_clamp, ↓ni_tst, ni_tst2, fa_and, fa_or, ni_bit1, ni_1s, nI_l, mb_eq0, mb_ne0, mb_eq1, gd_tt, gd_t, bft]
  unfold f_11019_21
  refine lp_to (I := fun j => (nI (rc B n j (2 ^ h)), nI j, nI j)) (ec n B h) (fun i hi => ?_) ?_ 0 (by omega)
  · have hal : ar B n (rc B n i (2 ^ h)) < 2048 := ar_lt hltn
    have hrl := rc_lt (pw_lt hh11) hltn i
    have hll := ly_lt hh11 hltn (i + 1)
    simp (disch := omega) only [F_11019_21, f_11019_52, f_11019_39, l1, gd_tt, oA_arr, px_obj_s, Option.bind_some, Option.map_some, Option.bind_none, eq_self, true_or, or_true, px_av_0, px_av_1, px_av_2, px_av_10, px_av_11, bn, wi_1, wi_2, wl_1, wl_21, wl_22, wr_1, wr_21, wr_22, Sum.elim_inl, Sum.elim_inr, ↓reduceIte, Nat.reduceLT, Nat.reduceLeDiff, not_false_eq_true, not_true_eq_false, Nat.reduceEqDiff, Nat.reduceAdd, reduceCtorEq, and_true, true_and, and_false, false_and, false_or, or_false, true_and, and_true, ni_divL, ni_subL, nI_add, pk_mul, nI_leI, nI_ltI, nI_eq, vp_in_eq, nI_clamp, ↓ni_tst, ni_tst2, fa_and, fa_or, ni_bit1, ni_1s, nI_l, mb_eq0, mb_ne0, mb_eq1, gd_tt, gd_t, bft, har, ni_nd, hly, rc_next hh11 hltn]
    rw [if_neg (by omega), if_neg (e3 i hi)]
  · have hal : ar B n (rc B n (ec n B h) (2 ^ h)) < 2048 := ar_lt hltn
    have hrl := rc_lt (pw_lt hh11) hltn (ec n B h)
    have hll := ly_lt hh11 hltn (ec n B h + 1)
    simp (disch := omega) only [F_11019_21, f_11019_52, f_11019_39, l1, gd_tt, oA_arr, px_obj_s, Option.bind_some, Option.map_some, Option.bind_none, eq_self, true_or, or_true, px_av_0, px_av_1, px_av_2, px_av_10, px_av_11, bn, wi_1, wi_2, wl_1, wl_21, wl_22, wr_1, wr_21, wr_22, Sum.elim_inl, Sum.elim_inr, ↓reduceIte, Nat.reduceLT, Nat.reduceLeDiff, not_false_eq_true, not_true_eq_false, Nat.reduceEqDiff, Nat.reduceAdd, reduceCtorEq, and_true, true_and, and_false, false_and, false_or, or_false, true_and, and_true, ni_divL, ni_subL, nI_add, pk_mul, nI_leI, nI_ltI, nI_eq, vp_in_eq, nI_clamp, ↓ni_tst, ni_tst2, fa_and, fa_or, ni_bit1, ni_1s, nI_l, mb_eq0, mb_ne0, mb_eq1, gd_tt, gd_t, bft, har, ni_nd, hly]
    rw [if_neg (by omega), if_pos e2]
theorem c_threesWith (hc : ct σ t n B) {h : Nat} (hh : h < n) : f_11022 tT σ t (nI h) = some (nI (th2 n B h / 2)) := by
  have hN := c_nei hc hh
  obtain ⟨l1, l2, hr, hw, h1, hnb⟩ := hc
  have hn := hw.1
  have hlt := wf_2048 hw
  have hB := hlt h
  unfold f_11022 f_11022_4
  refine lp_to (I := fun j => (nI (sm (fun a => if (B h).testBit a then bc 11 (B h &&& B a) else 0) j), nI j)) n (fun i hi => ?_) ?_ 0 (by omega)
  · have := th2_le (B := B) h i
    have hA : B h &&& B i < 2048 := and_lt hB
    simp (disch := omega) only [F_11022_4, f_11022_43, f_11022_24, l1, l2, hr, h1, hN, gd_tt, oA_arr, px_obj_s, Option.bind_some, Option.map_some, Option.bind_none, eq_self, true_or, or_true, px_av_0, px_av_1, px_av_2, px_av_10, px_av_11, bn, wi_1, wi_2, wl_1, wl_21, wl_22, wr_1, wr_21, wr_22, Sum.elim_inl, Sum.elim_inr, ↓reduceIte, Nat.reduceLT, Nat.reduceLeDiff, not_false_eq_true, not_true_eq_false, Nat.reduceEqDiff, Nat.reduceAdd, reduceCtorEq, and_true, true_and, and_false, false_and, false_or, or_false, true_and, and_true, ni_divL, ni_subL, nI_add, pk_mul, nI_leI, nI_ltI, nI_eq, vp_in_eq, nI_clamp, ↓ni_tst, ni_tst2, fa_and, fa_or, ni_bit1, ni_1s, nI_l, mb_eq0, mb_ne0, mb_eq1, gd_tt, gd_t, bft, hnb, e_bitCount]
    rw [if_neg (by omega)]
    cases h2 : (B h).testBit i
    · simp [sm, h2]
    · simp [sm, h2]
  · have := th2_le (B := B) h n
    simp (disch := omega) only [F_11022_4, f_11022_43, f_11022_24, l1, l2, hr, h1, gd_tt, oA_arr, px_obj_s, Option.bind_some, Option.map_some, Option.bind_none, eq_self, true_or, or_true, px_av_0, px_av_1, px_av_2, px_av_10, px_av_11, bn, wi_1, wi_2, wl_1, wl_21, wl_22, wr_1, wr_21, wr_22, Sum.elim_inl, Sum.elim_inr, ↓reduceIte, Nat.reduceLT, Nat.reduceLeDiff, not_false_eq_true, not_true_eq_false, Nat.reduceEqDiff, Nat.reduceAdd, reduceCtorEq, and_true, true_and, and_false, false_and, false_or, or_false, true_and, and_true, ni_divL, ni_subL, nI_add, pk_mul, nI_leI, nI_ltI, nI_eq, vp_in_eq, nI_clamp, ↓ni_tst, ni_tst2, fa_and, fa_or, ni_bit1, ni_1s, nI_l, mb_eq0, mb_ne0, mb_eq1, gd_tt, gd_t, bft]
    rw [if_pos (by omega)]; rfl
theorem c_roundsBy (σ : px_M) (s : Nat) : f_11026 tT σ (nI (bc 11 s)) = some (nI (c2 (bc 11 s))) := by
  have hs := bc_le 11 s
  generalize bc 11 s = k at *
  simp (disch := omega) only [f_11026, gd_tt, oA_arr, px_obj_s, Option.bind_some, Option.map_some, Option.bind_none, eq_self, true_or, or_true, px_av_0, px_av_1, px_av_2, px_av_10, px_av_11, bn, wi_1, wi_2, wl_1, wl_21, wl_22, wr_1, wr_21, wr_22, Sum.elim_inl, Sum.elim_inr, ↓reduceIte, Nat.reduceLT, Nat.reduceLeDiff, not_false_eq_true, not_true_eq_false, Nat.reduceEqDiff, Nat.reduceAdd, reduceCtorEq, and_true, true_and, and_false, false_and, false_or, or_false, true_and, and_true, ni_divL, ni_subL, nI_add, pk_mul, nI_leI, nI_ltI, nI_eq, vp_in_eq, nI_clamp, ↓ni_tst, ni_tst2, fa_and, fa_or, ni_bit1, ni_1s, nI_l, mb_eq0, mb_ne0, mb_eq1, gd_tt, gd_t, bft, ↓ni_c2]
theorem c_foursWith (hc : ct σ t n B) {h : Nat} (hh : h < n) : f_11027 tT σ t (nI h) = some (nI (fo1 n B h)) := by
  have hN := c_nei hc hh
  obtain ⟨l1, l2, hr, hw, h1, hnb⟩ := hc
  have hn := hw.1
  have hlt := wf_2048 hw
  have hB := hlt h
  unfold f_11027 f_11027_4
  refine lp_to (I := fun j => (nI (sm (fun o => if o = h then 0 else c2 (bc 11 (B h &&& B o))) j), nI j)) n (fun i hi => ?_) ?_ 0 (by omega)
  · have hA : B h &&& B i < 2048 := and_lt hB
    simp (disch := omega) only [F_11027_4, f_11027_38, l1, l2, hr, h1, hN, gd_tt, oA_arr, px_obj_s, Option.bind_some, Option.map_some, Option.bind_none, eq_self, true_or, or_true, px_av_0, px_av_1, px_av_2, px_av_10, px_av_11, bn, wi_1, wi_2, wl_1, wl_21, wl_22, wr_1, wr_21, wr_22, Sum.elim_inl, Sum.elim_inr, ↓reduceIte, Nat.reduceLT, Nat.reduceLeDiff, not_false_eq_true, not_true_eq_false, Nat.reduceEqDiff, Nat.reduceAdd, reduceCtorEq, and_true, true_and, and_false, false_and, false_or, or_false, true_and, and_true, ni_divL, ni_subL, nI_add, pk_mul, nI_leI, nI_ltI, nI_eq, vp_in_eq, nI_clamp, ↓ni_tst, ni_tst2, fa_and, fa_or, ni_bit1, ni_1s, nI_l, mb_eq0, mb_ne0, mb_eq1, gd_tt, gd_t, bft, hnb, e_bitCount, c_roundsBy]
    rw [if_neg (by omega)]
    by_cases hih : i = h
    · simp [sm, hih]
    · simp [sm, hih]
  · simp (disch := omega) only [F_11027_4, f_11027_38, l1, l2, hr, h1, gd_tt, oA_arr, px_obj_s, Option.bind_some, Option.map_some, Option.bind_none, eq_self, true_or, or_true, px_av_0, px_av_1, px_av_2, px_av_10, px_av_11, bn, wi_1, wi_2, wl_1, wl_21, wl_22, wr_1, wr_21, wr_22, Sum.elim_inl, Sum.elim_inr, ↓reduceIte, Nat.reduceLT, Nat.reduceLeDiff, not_false_eq_true, not_true_eq_false, Nat.reduceEqDiff, Nat.reduceAdd, reduceCtorEq, and_true, true_and, and_false, false_and, false_or, or_false, true_and, and_true, ni_divL, ni_subL, nI_add, pk_mul, nI_leI, nI_ltI, nI_eq, vp_in_eq, nI_clamp, ↓ni_tst, ni_tst2, fa_and, fa_or, ni_bit1, ni_1s, nI_l, mb_eq0, mb_ne0, mb_eq1, gd_tt, gd_t, bft]
    rw [if_pos (by omega)]; rfl
theorem c_commonAbove (hc : ct σ t n B) {a b : Nat} (ha : a < n) (hb : b < n) : f_11025 tT σ t (nI a) (nI b) = some (nI (ab b (B a &&& B b))) := by
  obtain ⟨l1, l2, hr, hw, h1, hnb⟩ := hc
  have hn := hw.1
  have hA : B a &&& B b < 2048 := and_lt (wf_2048 hw a)
  simp (disch := omega) only [f_11025, l1, l2, hr, h1, gd_tt, oA_arr, px_obj_s, Option.bind_some, Option.map_some, Option.bind_none, eq_self, true_or, or_true, px_av_0, px_av_1, px_av_2, px_av_10, px_av_11, bn, wi_1, wi_2, wl_1, wl_21, wl_22, wr_1, wr_21, wr_22, Sum.elim_inl, Sum.elim_inr, ↓reduceIte, Nat.reduceLT, Nat.reduceLeDiff, not_false_eq_true, not_true_eq_false, Nat.reduceEqDiff, Nat.reduceAdd, reduceCtorEq, and_true, true_and, and_false, false_and, false_or, or_false, true_and, and_true, ni_divL, ni_subL, nI_add, pk_mul, nI_leI, nI_ltI, nI_eq, vp_in_eq, nI_clamp, ↓ni_tst, ni_tst2, fa_and, fa_or, ni_bit1, ni_1s, nI_l, mb_eq0, mb_ne0, mb_eq1, gd_tt, gd_t, bft, hnb, ni_ab]
/-- threes, each once -/
def tr (n : Nat) (B : Nat → Nat) : Nat := sm (fun a => sm (fun b => if a < b then (if (B a).testBit b then bc 11 (ab b (B a &&& B b)) else 0) else 0) n) n
theorem c_threes (hc : ct σ t n B) : f_11023 tT σ t = some (nI (tr n B)) := by
  have hL := @c_linked σ t n B hc
  have hA := @c_commonAbove σ t n B hc
  obtain ⟨l1, l2, hr, hw, h1, hnb⟩ := hc
  have hn := hw.1
  have inner : ∀ a acc, a < n → f_11023_16 tT σ t (nI a) (nI acc) (nI (a + 1)) = some (.inl (nI (acc + sm (fun b => if a < b then (if (B a).testBit b then bc 11 (ab b (B a &&& B b)) else 0) else 0) n), nI (a + 1))) := by
    intro a acc ha
    have e0 := sm_lo a (fun b => if (B a).testBit b then bc 11 (ab b (B a &&& B b)) else 0)
    have := lp_to (F := fun s : Int32 × Int32 => F_11023_16 tT σ t (nI a) s.1 s.2) (I := fun j => (nI (acc + sm (fun b => if a < b then (if (B a).testBit b then bc 11 (ab b (B a &&& B b)) else 0) else 0) (a + 1 + j)), nI (a + 1 + j))) (b := .inl (nI (acc + sm (fun b => if a < b then (if (B a).testBit b then bc 11 (ab b (B a &&& B b)) else 0) else 0) n), nI (a + 1))) (n - (a + 1)) (fun i hi => by
        have hAl : ab (a + 1 + i) (B a &&& B (a + 1 + i)) < 2048 := ab_lt (and_lt (wf_2048 hw a))
        simp (disch := omega) only [F_11023_16, f_11023_45, l1, h1, gd_tt, oA_arr, px_obj_s, Option.bind_some, Option.map_some, Option.bind_none, eq_self, true_or, or_true, px_av_0, px_av_1, px_av_2, px_av_10, px_av_11, bn, wi_1, wi_2, wl_1, wl_21, wl_22, wr_1, wr_21, wr_22, Sum.elim_inl, Sum.elim_inr, ↓reduceIte, Nat.reduceLT, Nat.reduceLeDiff, not_false_eq_true, not_true_eq_false, Nat.reduceEqDiff, Nat.reduceAdd, reduceCtorEq, and_true, true_and, and_false, false_and, false_or, or_false, true_and, and_true, ni_divL, ni_subL, nI_add, pk_mul, nI_leI, nI_ltI, nI_eq, vp_in_eq, nI_clamp, ↓ni_tst, ni_tst2, fa_and, fa_or, ni_bit1, ni_1s, nI_l, mb_eq0, mb_ne0, mb_eq1, gd_tt, gd_t, bft, hL, hA, e_bitCount]
        rw [if_neg (by omega)]
        have e : a + 1 + (i + 1) = (a + 1 + i) + 1 := by omega
        rw [e]
        have hai : a < a + 1 + i := by omega
        generalize a + 1 + i = j at *
        cases h2 : (B a).testBit j
        · simp [sm, h2]
        · simp [sm, h2, hai, Nat.add_assoc]) (by
        have e : a + 1 + (n - (a + 1)) = n := by omega
        rw [e]
        simp (disch := omega) only [F_11023_16, f_11023_45, l1, h1, gd_tt, oA_arr, px_obj_s, Option.bind_some, Option.map_some, Option.bind_none, eq_self, true_or, or_true, px_av_0, px_av_1, px_av_2, px_av_10, px_av_11, bn, wi_1, wi_2, wl_1, wl_21, wl_22, wr_1, wr_21, wr_22, Sum.elim_inl, Sum.elim_inr, ↓reduceIte, Nat.reduceLT, Nat.reduceLeDiff, not_false_eq_true, not_true_eq_false, Nat.reduceEqDiff, Nat.reduceAdd, reduceCtorEq, and_true, true_and, and_false, false_and, false_or, or_false, true_and, and_true, ni_divL, ni_subL, nI_add, pk_mul, nI_leI, nI_ltI, nI_eq, vp_in_eq, nI_clamp, ↓ni_tst, ni_tst2, fa_and, fa_or, ni_bit1, ni_1s, nI_l, mb_eq0, mb_ne0, mb_eq1, gd_tt, gd_t, bft]
        rw [if_pos (by omega)]) 0 (by omega)
    rw [Nat.add_zero, e0, Nat.add_zero] at this
    exact this
  unfold f_11023 f_11023_4
  refine lp_to (I := fun j => (nI (sm (fun a => sm (fun b => if a < b then (if (B a).testBit b then bc 11 (ab b (B a &&& B b)) else 0) else 0) n) j), nI j)) n (fun i hi => ?_) ?_ 0 (by omega)
  · simp (disch := omega) only [F_11023_4, f_11023_45, l1, h1, gd_tt, oA_arr, px_obj_s, Option.bind_some, Option.map_some, Option.bind_none, eq_self, true_or, or_true, px_av_0, px_av_1, px_av_2, px_av_10, px_av_11, bn, wi_1, wi_2, wl_1, wl_21, wl_22, wr_1, wr_21, wr_22, Sum.elim_inl, Sum.elim_inr, ↓reduceIte, Nat.reduceLT, Nat.reduceLeDiff, not_false_eq_true, not_true_eq_false, Nat.reduceEqDiff, Nat.reduceAdd, reduceCtorEq, and_true, true_and, and_false, false_and, false_or, or_false, true_and, and_true, ni_divL, ni_subL, nI_add, pk_mul, nI_leI, nI_ltI, nI_eq, vp_in_eq, nI_clamp, ↓ni_tst, ni_tst2, fa_and, fa_or, ni_bit1, ni_1s, nI_l, mb_eq0, mb_ne0, mb_eq1, gd_tt, gd_t, bft, inner]
    rw [if_neg (by omega)]
    rfl
  · simp (disch := omega) only [F_11023_4, f_11023_45, l1, h1, gd_tt, oA_arr, px_obj_s, Option.bind_some, Option.map_some, Option.bind_none, eq_self, true_or, or_true, px_av_0, px_av_1, px_av_2, px_av_10, px_av_11, bn, wi_1, wi_2, wl_1, wl_21, wl_22, wr_1, wr_21, wr_22, Sum.elim_inl, Sum.elim_inr, ↓reduceIte, Nat.reduceLT, Nat.reduceLeDiff, not_false_eq_true, not_true_eq_false, Nat.reduceEqDiff, Nat.reduceAdd, reduceCtorEq, and_true, true_and, and_false, false_and, false_or, or_false, true_and, and_true, ni_divL, ni_subL, nI_add, pk_mul, nI_leI, nI_ltI, nI_eq, vp_in_eq, nI_clamp, ↓ni_tst, ni_tst2, fa_and, fa_or, ni_bit1, ni_1s, nI_l, mb_eq0, mb_ne0, mb_eq1, gd_tt, gd_t, bft]
    rw [if_pos (by omega)]
    rfl
/-- pairs that face one another in a round of four -/
def fp (n : Nat) (B : Nat → Nat) : Nat := sm (fun a => sm (fun b => if a < b then c2 (bc 11 (B a &&& B b)) else 0) n) n
theorem fp_le (m : Nat) : sm (fun a => sm (fun b => if a < b then c2 (bc 11 (B a &&& B b)) else 0) n) m ≤ 55 * n * m := sm_le (fun a => sm_le (fun b => by
  split
  · exact c2_le _ (by have := bc_le 11 (B a &&& B b); omega)
  · omega) n) m
theorem c_roundsOfFour (hc : ct σ t n B) : f_11028 tT σ t = some (nI (fp n B / 2)) := by
  obtain ⟨l1, l2, hr, hw, h1, hnb⟩ := hc
  have hn := hw.1
  have inner : ∀ a acc, a < n → f_11028_16 tT σ t (nI a) (nI acc) (nI (a + 1)) = some (.inl (nI (acc + sm (fun b => if a < b then c2 (bc 11 (B a &&& B b)) else 0) n), nI (a + 1))) := by
    intro a acc ha
    have e0 := sm_lo a (fun b => c2 (bc 11 (B a &&& B b)))
    have := lp_to (F := fun s : Int32 × Int32 => F_11028_16 tT σ t (nI a) s.1 s.2) (I := fun j => (nI (acc + sm (fun b => if a < b then c2 (bc 11 (B a &&& B b)) else 0) (a + 1 + j)), nI (a + 1 + j))) (b := .inl (nI (acc + sm (fun b => if a < b then c2 (bc 11 (B a &&& B b)) else 0) n), nI (a + 1))) (n - (a + 1)) (fun i hi => by
        have hAl : B a &&& B (a + 1 + i) < 2048 := and_lt (wf_2048 hw a)
        simp (disch := omega) only [F_11028_16, f_11028_46, l1, l2, hr, h1, gd_tt, oA_arr, px_obj_s, Option.bind_some, Option.map_some, Option.bind_none, eq_self, true_or, or_true, px_av_0, px_av_1, px_av_2, px_av_10, px_av_11, bn, wi_1, wi_2, wl_1, wl_21, wl_22, wr_1, wr_21, wr_22, Sum.elim_inl, Sum.elim_inr, ↓reduceIte, Nat.reduceLT, Nat.reduceLeDiff, not_false_eq_true, not_true_eq_false, Nat.reduceEqDiff, Nat.reduceAdd, reduceCtorEq, and_true, true_and, and_false, false_and, false_or, or_false, true_and, and_true, ni_divL, ni_subL, nI_add, pk_mul, nI_leI, nI_ltI, nI_eq, vp_in_eq, nI_clamp, ↓ni_tst, ni_tst2, fa_and, fa_or, ni_bit1, ni_1s, nI_l, mb_eq0, mb_ne0, mb_eq1, gd_tt, gd_t, bft, hnb, e_bitCount, c_roundsBy]
        rw [if_neg (by omega)]
        have e : a + 1 + (i + 1) = (a + 1 + i) + 1 := by omega
        rw [e]
        have hai : a < a + 1 + i := by omega
        generalize a + 1 + i = j at *
        simp [sm, hai, Nat.add_assoc]) (by
        have e : a + 1 + (n - (a + 1)) = n := by omega
        rw [e]
        simp (disch := omega) only [F_11028_16, f_11028_46, l1, h1, gd_tt, oA_arr, px_obj_s, Option.bind_some, Option.map_some, Option.bind_none, eq_self, true_or, or_true, px_av_0, px_av_1, px_av_2, px_av_10, px_av_11, bn, wi_1, wi_2, wl_1, wl_21, wl_22, wr_1, wr_21, wr_22, Sum.elim_inl, Sum.elim_inr, ↓reduceIte, Nat.reduceLT, Nat.reduceLeDiff, not_false_eq_true, not_true_eq_false, Nat.reduceEqDiff, Nat.reduceAdd, reduceCtorEq, and_true, true_and, and_false, false_and, false_or, or_false, true_and, and_true, ni_divL, ni_subL, nI_add, pk_mul, nI_leI, nI_ltI, nI_eq, vp_in_eq, nI_clamp, ↓ni_tst, ni_tst2, fa_and, fa_or, ni_bit1, ni_1s, nI_l, mb_eq0, mb_ne0, mb_eq1, gd_tt, gd_t, bft]
        rw [if_pos (by omega)]) 0 (by omega)
    rw [Nat.add_zero, e0, Nat.add_zero] at this
    exact this
  unfold f_11028 f_11028_4
  refine lp_to (I := fun j => (nI (sm (fun a => sm (fun b => if a < b then c2 (bc 11 (B a &&& B b)) else 0) n) j), nI j)) n (fun i hi => ?_) ?_ 0 (by omega)
  · simp (disch := omega) only [F_11028_4, f_11028_46, l1, h1, gd_tt, oA_arr, px_obj_s, Option.bind_some, Option.map_some, Option.bind_none, eq_self, true_or, or_true, px_av_0, px_av_1, px_av_2, px_av_10, px_av_11, bn, wi_1, wi_2, wl_1, wl_21, wl_22, wr_1, wr_21, wr_22, Sum.elim_inl, Sum.elim_inr, ↓reduceIte, Nat.reduceLT, Nat.reduceLeDiff, not_false_eq_true, not_true_eq_false, Nat.reduceEqDiff, Nat.reduceAdd, reduceCtorEq, and_true, true_and, and_false, false_and, false_or, or_false, true_and, and_true, ni_divL, ni_subL, nI_add, pk_mul, nI_leI, nI_ltI, nI_eq, vp_in_eq, nI_clamp, ↓ni_tst, ni_tst2, fa_and, fa_or, ni_bit1, ni_1s, nI_l, mb_eq0, mb_ne0, mb_eq1, gd_tt, gd_t, bft, inner]
    rw [if_neg (by omega)]
    rfl
  · have h2 := fp_le (n := n) (B := B) n
    have h3 : 55 * n * n ≤ 55 * 11 * 11 := Nat.mul_le_mul (Nat.mul_le_mul_left 55 hn) hn
    simp (disch := omega) only [F_11028_4, f_11028_46, l1, h1, gd_tt, oA_arr, px_obj_s, Option.bind_some, Option.map_some, Option.bind_none, eq_self, true_or, or_true, px_av_0, px_av_1, px_av_2, px_av_10, px_av_11, bn, wi_1, wi_2, wl_1, wl_21, wl_22, wr_1, wr_21, wr_22, Sum.elim_inl, Sum.elim_inr, ↓reduceIte, Nat.reduceLT, Nat.reduceLeDiff, not_false_eq_true, not_true_eq_false, Nat.reduceEqDiff, Nat.reduceAdd, reduceCtorEq, and_true, true_and, and_false, false_and, false_or, or_false, true_and, and_true, ni_divL, ni_subL, nI_add, pk_mul, nI_leI, nI_ltI, nI_eq, vp_in_eq, nI_clamp, ↓ni_tst, ni_tst2, fa_and, fa_or, ni_bit1, ni_1s, nI_l, mb_eq0, mb_ne0, mb_eq1, gd_tt, gd_t, bft]
    rw [if_pos (by omega)]
    rfl
end
