/-! doors made and walled, houses that come: the town as it is then -/
def jn (B : Nat → Nat) (a b : Nat) : Nat → Nat := fun x => if x = a then B a ||| 2 ^ b else if x = b then B b ||| 2 ^ a else B x
def wl (B : Nat → Nat) (a b : Nat) : Nat → Nat := fun x => if x = a then nd (B a) (2 ^ b) else if x = b then nd (B b) (2 ^ a) else B x
theorem jn_tb {B : Nat → Nat} {a b : Nat} (hab : a ≠ b) (x y : Nat) : (jn B a b x).testBit y = ((B x).testBit y || decide ((x = a ∧ y = b) ∨ (x = b ∧ y = a))) := by
  unfold jn
  by_cases h1 : x = a
  · subst h1
    rw [if_pos rfl, Nat.testBit_or, Nat.testBit_two_pow]
    congr 1
    refine decide_eq_decide.mpr ⟨fun q => Or.inl ⟨rfl, q.symm⟩, fun q => ?_⟩
    rcases q with q | q
    · exact q.2.symm
    · exact absurd q.1 hab
  · rw [if_neg h1]
    by_cases h2 : x = b
    · subst h2
      rw [if_pos rfl, Nat.testBit_or, Nat.testBit_two_pow]
      congr 1
      refine decide_eq_decide.mpr ⟨fun q => Or.inr ⟨rfl, q.symm⟩, fun q => ?_⟩
      rcases q with q | q
      · exact absurd q.1 h1
      · exact q.2.symm
    · rw [if_neg h2]
      simp [h1, h2]
theorem wl_tb {B : Nat → Nat} (hB : ∀ x, B x < 2048) {a b : Nat} (hab : a ≠ b) (x y : Nat) : (wl B a b x).testBit y = ((B x).testBit y && !decide ((x = a ∧ y = b) ∨ (x = b ∧ y = a))) := by
  unfold wl
  by_cases h1 : x = a
  · subst h1
    rw [if_pos rfl, nd_tb (hB x), Nat.testBit_two_pow]
    congr 2
    refine decide_eq_decide.mpr ⟨fun q => Or.inl ⟨rfl, q.symm⟩, fun q => ?_⟩
    rcases q with q | q
    · exact q.2.symm
    · exact absurd q.1 hab
  · rw [if_neg h1]
    by_cases h2 : x = b
    · subst h2
      rw [if_pos rfl, nd_tb (hB x), Nat.testBit_two_pow]
      congr 2
      refine decide_eq_decide.mpr ⟨fun q => Or.inr ⟨rfl, q.symm⟩, fun q => ?_⟩
      rcases q with q | q
      · exact absurd q.1 h1
      · exact q.2.symm
    · rw [if_neg h2]
      simp [h1, h2]
theorem lt_tb {s n : Nat} (h : ∀ i, s.testBit i = true → i < n) : s < 2 ^ n := by
  apply Nat.lt_pow_two_of_testBit
  intro i hi
  exact tb_ff (h i) hi
section
variable {σ τ : px_M} {t n : Nat} {B : Nat → Nat}
/-- from what bits are: a well made town -/
theorem wf_of (hn : n ≤ 11) (h1 : ∀ a b, (B a).testBit b = true → a < n ∧ b < n) (h2 : ∀ a b, (B a).testBit b = (B b).testBit a) (h3 : ∀ a, (B a).testBit a = false) : wf n B := by
  refine ⟨hn, fun a => lt_tb (fun i hi => (h1 a i hi).2), fun a ha => ?_, h2, h3⟩
  apply tb_eq
  intro i
  rw [Nat.zero_testBit]
  constructor
  · intro q; have := (h1 a i q).1; omega
  · intro q; cases q
theorem wf_jn (hw : wf n B) {a b : Nat} (ha : a < n) (hb : b < n) (hab : a ≠ b) : wf n (jn B a b) := wf_of hw.1 (fun x y h => by
    rw [jn_tb hab, Bool.or_eq_true, decide_eq_true_eq] at h
    rcases h with h | h | h
    · exact ⟨wf_l hw h, wf_r hw h⟩
    · omega
    · omega) (fun x y => by
    rw [jn_tb hab, jn_tb hab, hw.2.2.2.1 x y]
    congr 1
    exact decide_eq_decide.mpr (by omega)) (fun x => by
    rw [jn_tb hab, hw.2.2.2.2 x, Bool.false_or]
    exact decide_eq_false (by omega))
theorem wf_wl (hw : wf n B) {a b : Nat} (hab : a ≠ b) : wf n (wl B a b) := wf_of hw.1 (fun x y h => by
    rw [wl_tb (wf_2048 hw) hab, Bool.and_eq_true] at h
    exact ⟨wf_l hw h.1, wf_r hw h.1⟩) (fun x y => by
    rw [wl_tb (wf_2048 hw) hab, wl_tb (wf_2048 hw) hab, hw.2.2.2.1 x y]
    congr 2
    exact decide_eq_decide.mpr (by omega)) (fun x => by
    rw [wl_tb (wf_2048 hw) hab, hw.2.2.2.2 x, Bool.false_and])
theorem jn_comm {a b : Nat} (hab : a ≠ b) : jn B a b = jn B b a := by
  funext x
  apply Nat.eq_of_testBit_eq
  intro y
  rw [jn_tb hab, jn_tb hab.symm]
  congr 1
  exact decide_eq_decide.mpr (by omega)
theorem jn_wl (hw : wf n B) {a b : Nat} (hab : a ≠ b) (h : (B a).testBit b = true) : jn (wl B a b) a b = B := by
  funext x
  apply Nat.eq_of_testBit_eq
  intro y
  rw [jn_tb hab, wl_tb (wf_2048 hw) hab]
  by_cases hq : (x = a ∧ y = b) ∨ (x = b ∧ y = a)
  · have : (B x).testBit y = true := by
      rcases hq with ⟨rfl, rfl⟩ | ⟨rfl, rfl⟩
      · exact h
      · exact wf_s hw h
    simp [hq, this]
  · simp [hq]
theorem wl_jn (hw : wf n B) {a b : Nat} (ha : a < n) (hb : b < n) (hab : a ≠ b) (h : (B a).testBit b = false) : wl (jn B a b) a b = B := by
  funext x
  apply Nat.eq_of_testBit_eq
  intro y
  rw [wl_tb (wf_2048 (wf_jn hw ha hb hab)) hab, jn_tb hab]
  by_cases hq : (x = a ∧ y = b) ∨ (x = b ∧ y = a)
  · have : (B x).testBit y = false := by
      rcases hq with ⟨rfl, rfl⟩ | ⟨rfl, rfl⟩
      · exact h
      · rw [hw.2.2.2.1]; exact h
    simp [hq, this]
  · simp [hq]
/-- the slots of the model's town -/
def tn (l j : Nat) : Bool := l == 1 && (decide (1 ≤ j) && decide (j ≤ 12))
theorem tn_t {j : Nat} (h1 : 1 ≤ j) (h2 : j ≤ 12) : tn 1 j = true := by simp [tn, h1, h2]
theorem e_joins (hm : mo σ n B) {a b : Nat} (ha : a < n) (hb : b < n) (hab : a ≠ b) : ∃ υ, f_15 tT σ 1 (nI a) (nI b) = some υ ∧ fr tn σ υ ∧ mo υ n (jn B a b) := by
  obtain ⟨hR, hw, e1, hnb⟩ := id hm
  have hn := hw.1
  have hne : ¬ 2 + b = 2 + a := by omega
  refine ⟨px_wi (px_wi σ 1 (2 + a) (nI (B a ||| 2 ^ b))) 1 (2 + b) (nI (B b ||| 2 ^ a)), ?_, fr_wi (fr_wi (fr_rf _ _) _ (tn_t (by omega) (by omega))) _ (tn_t (by omega) (by omega)), hR, wf_jn hw ha hb hab, ?_, fun h hh => ?_⟩
  · simp (disch := omega) only [f_15, la_1, gd_tt, oA_arr, px_obj_s, Option.bind_some, Option.map_some, Option.bind_none, eq_self, true_or, or_true, px_av_0, px_av_1, px_av_2, px_av_10, px_av_11, bn, wi_1, wi_2, wl_1, wl_21, wl_22, wr_1, wr_21, wr_22, Sum.elim_inl, Sum.elim_inr, ↓reduceIte, Nat.reduceLT, Nat.reduceLeDiff, not_false_eq_true, not_true_eq_false, Nat.reduceEqDiff, Nat.reduceAdd, reduceCtorEq, and_true, true_and, and_false, false_and, false_or, or_false, true_and, and_true, ni_divL, ni_subL, nI_add, pk_mul, nI_leI, nI_ltI, nI_eq, vp_in_eq, nI_clamp, ↓ni_tst, ni_tst2, fa_and, fa_or, ni_bit1, ni_1s, nI_l, mb_eq0, mb_ne0, mb_eq1, gd_tt, gd_t, bft, hnb, up_s, hne]
  · show px_up (px_up σ.1 1 (2 + a) _) 1 (2 + b) _ 1 1 = _
    rw [up_s, if_neg (by omega), up_s, if_neg (by omega)]; exact e1
  · show px_up (px_up σ.1 1 (2 + a) _) 1 (2 + b) _ 1 (2 + h) = _
    rw [up_s, up_s, hnb h hh]
    unfold jn
    by_cases h1 : h = a
    · subst h1; rw [if_neg (by omega), if_pos rfl, if_pos rfl]
    · by_cases h2 : h = b
      · subst h2; rw [if_pos rfl, if_neg h1, if_pos rfl]
      · rw [if_neg (by omega), if_neg (by omega), if_neg h1, if_neg h2]
theorem e_walls (hm : mo σ n B) {a b : Nat} (ha : a < n) (hb : b < n) (hab : a ≠ b) : ∃ υ, f_59 tT σ 0 (nI a) (nI b) = some υ ∧ fr tn σ υ ∧ mo υ n (wl B a b) := by
  obtain ⟨hR, hw, e1, hnb⟩ := id hm
  have hn := hw.1
  have hne : ¬ 2 + b = 2 + a := by omega
  have hBa := wf_2048 hw a
  have hBb := wf_2048 hw b
  refine ⟨px_wi (px_wi σ 1 (2 + a) (nI (nd (B a) (2 ^ b)))) 1 (2 + b) (nI (nd (B b) (2 ^ a))), ?_, fr_wi (fr_wi (fr_rf _ _) _ (tn_t (by omega) (by omega))) _ (tn_t (by omega) (by omega)), hR, wf_wl hw hab, ?_, fun h hh => ?_⟩
  · simp (disch := omega) only [f_59, la_0, la_1, la_2, la_3, la_4, la_15, la_16, la_17, la_18, la_19, la_20, la_23, la_24, la_25, la_26, la_27, la_28, la_31, la_35, la_36, la_37, rm_0_1 hR, rm_0_2 hR, rm_0_3 hR, rm_0_4 hR, rm_0_15 hR, rm_0_16 hR, rm_0_17 hR, rm_0_18 hR, rm_0_19 hR, rm_0_20 hR, rm_0_23 hR, rm_0_24 hR, rm_0_25 hR, rm_0_26 hR, rm_0_27 hR, rm_0_28 hR, rm_0_31 hR, rm_0_35 hR, rm_0_36 hR, rm_0_37 hR, gd_tt, oA_arr, px_obj_s, Option.bind_some, Option.map_some, Option.bind_none, eq_self, true_or, or_true, px_av_0, px_av_1, px_av_2, px_av_10, px_av_11, bn, wi_1, wi_2, wl_1, wl_21, wl_22, wr_1, wr_21, wr_22, Sum.elim_inl, Sum.elim_inr, ↓reduceIte, Nat.reduceLT, Nat.reduceLeDiff, not_false_eq_true, not_true_eq_false, Nat.reduceEqDiff, Nat.reduceAdd, reduceCtorEq, and_true, true_and, and_false, false_and, false_or, or_false, true_and, and_true, ni_divL, ni_subL, nI_add, pk_mul, nI_leI, nI_ltI, nI_eq, vp_in_eq, nI_clamp, ↓ni_tst, ni_tst2, fa_and, fa_or, ni_bit1, ni_1s, nI_l, mb_eq0, mb_ne0, mb_eq1, gd_tt, gd_t, bft, hnb, up_s, hne, ni_nd]
  · show px_up (px_up σ.1 1 (2 + a) _) 1 (2 + b) _ 1 1 = _
    rw [up_s, if_neg (by omega), up_s, if_neg (by omega)]; exact e1
  · show px_up (px_up σ.1 1 (2 + a) _) 1 (2 + b) _ 1 (2 + h) = _
    rw [up_s, up_s, hnb h hh]
    unfold wl
    by_cases h1 : h = a
    · subst h1; rw [if_neg (by omega), if_pos rfl, if_pos rfl]
    · by_cases h2 : h = b
      · subst h2; rw [if_pos rfl, if_neg h1, if_pos rfl]
      · rw [if_neg (by omega), if_neg (by omega), if_neg h1, if_neg h2]
/-- the town is kept in a row, and is so again -/
theorem e_keeps (hR : mR σ.2.2) {L : Nat} (hL : px_lay tT L = some (.inr (0, 12))) (hL1 : L ≠ 1) : ∃ υ, f_52 tT σ 0 L = some υ ∧ fr (on L) σ υ ∧ ∀ k, k < 12 → υ.1 L k = σ.1 1 (1 + k) := by
  unfold f_52 f_52_2
  exact lp_for (F := fun s : Int32 × px_M => F_52_2 tT 0 L s.1 s.2) (fun j s => s.1 = nI j ∧ fr (on L) σ s.2 ∧ ∀ k, k < j → s.2.1 L k = σ.1 1 (1 + k)) (fun b => fr (on L) σ b ∧ ∀ k, k < 12 → b.1 L k = σ.1 1 (1 + k)) 12 (fun j s hj hI => by
    obtain ⟨x, υ⟩ := s
    obtain ⟨hx, h1, h2⟩ := hI
    dsimp only at hx h1 h2
    subst hx
    have hR := mR_fr h1 hR
    have h3 : υ.1 1 (1 + j) = σ.1 1 (1 + j) := h1.1 1 (1 + j) (by simp only [on, beq_eq_false_iff_ne]; exact fun q => hL1 q.symm)
    refine ⟨(nI (j + 1), px_wi υ L j (σ.1 1 (1 + j))), ?_, rfl, fr_wi h1 _ (on_t _ _), fun k hk => ?_⟩
    · simp (disch := omega) only [F_52_2, la_0, la_1, la_2, la_3, la_4, la_15, la_16, la_17, la_18, la_19, la_20, la_23, la_24, la_25, la_26, la_27, la_28, la_31, la_35, la_36, la_37, rm_0_1 hR, rm_0_2 hR, rm_0_3 hR, rm_0_4 hR, rm_0_15 hR, rm_0_16 hR, rm_0_17 hR, rm_0_18 hR, rm_0_19 hR, rm_0_20 hR, rm_0_23 hR, rm_0_24 hR, rm_0_25 hR, rm_0_26 hR, rm_0_27 hR, rm_0_28 hR, rm_0_31 hR, rm_0_35 hR, rm_0_36 hR, rm_0_37 hR, hL, gd_tt, oA_arr, px_obj_s, Option.bind_some, Option.map_some, Option.bind_none, eq_self, true_or, or_true, px_av_0, px_av_1, px_av_2, px_av_10, px_av_11, bn, wi_1, wi_2, wl_1, wl_21, wl_22, wr_1, wr_21, wr_22, Sum.elim_inl, Sum.elim_inr, ↓reduceIte, Nat.reduceLT, Nat.reduceLeDiff, not_false_eq_true, not_true_eq_false, Nat.reduceEqDiff, Nat.reduceAdd, reduceCtorEq, and_true, true_and, and_false, false_and, false_or, or_false, true_and, and_true, ni_divL, ni_subL, nI_add, pk_mul, nI_leI, nI_ltI, nI_eq, vp_in_eq, nI_clamp, ↓ni_tst, ni_tst2, fa_and, fa_or, ni_bit1, ni_1s, nI_l, mb_eq0, mb_ne0, mb_eq1, gd_tt, gd_t, bft, h3]
      rw [if_neg (by omega)]
    · show px_up υ.1 L j _ L k = _
      rw [up_s]
      by_cases hkj : k = j
      · subst hkj; rw [if_pos rfl]
      · rw [if_neg hkj]; exact h2 k (by omega)) (fun s hI => by
    obtain ⟨x, υ⟩ := s
    obtain ⟨hx, h1, h2⟩ := hI
    dsimp only at hx h1 h2
    subst hx
    refine ⟨υ, ?_, h1, h2⟩
    simp (disch := omega) only [F_52_2, gd_tt, oA_arr, px_obj_s, Option.bind_some, Option.map_some, Option.bind_none, eq_self, true_or, or_true, px_av_0, px_av_1, px_av_2, px_av_10, px_av_11, bn, wi_1, wi_2, wl_1, wl_21, wl_22, wr_1, wr_21, wr_22, Sum.elim_inl, Sum.elim_inr, ↓reduceIte, Nat.reduceLT, Nat.reduceLeDiff, not_false_eq_true, not_true_eq_false, Nat.reduceEqDiff, Nat.reduceAdd, reduceCtorEq, and_true, true_and, and_false, false_and, false_or, or_false, true_and, and_true, ni_divL, ni_subL, nI_add, pk_mul, nI_leI, nI_ltI, nI_eq, vp_in_eq, nI_clamp, ↓ni_tst, ni_tst2, fa_and, fa_or, ni_bit1, ni_1s, nI_l, mb_eq0, mb_ne0, mb_eq1, gd_tt, gd_t, bft]) 0 (nI 0, σ) (by omega) ⟨rfl, fr_rf _ _, fun k hk => absurd hk (by omega)⟩
theorem e_isAgain (hR : mR σ.2.2) {L : Nat} (hL : px_lay tT L = some (.inr (0, 12))) (hL1 : L ≠ 1) : ∃ υ, f_53 tT σ 0 L = some υ ∧ fr tn σ υ ∧ ∀ k, k < 12 → υ.1 1 (1 + k) = σ.1 L k := by
  unfold f_53 f_53_2
  exact lp_for (F := fun s : Int32 × px_M => F_53_2 tT 0 L s.1 s.2) (fun j s => s.1 = nI j ∧ fr tn σ s.2 ∧ ∀ k, k < j → s.2.1 1 (1 + k) = σ.1 L k) (fun b => fr tn σ b ∧ ∀ k, k < 12 → b.1 1 (1 + k) = σ.1 L k) 12 (fun j s hj hI => by
    obtain ⟨x, υ⟩ := s
    obtain ⟨hx, h1, h2⟩ := hI
    dsimp only at hx h1 h2
    subst hx
    have hR := mR_fr h1 hR
    have h3 : υ.1 L j = σ.1 L j := h1.1 L j (by simp [tn, hL1])
    refine ⟨(nI (j + 1), px_wi υ 1 (1 + j) (σ.1 L j)), ?_, rfl, fr_wi h1 _ (tn_t (by omega) (by omega)), fun k hk => ?_⟩
    · simp (disch := omega) only [F_53_2, la_0, la_1, la_2, la_3, la_4, la_15, la_16, la_17, la_18, la_19, la_20, la_23, la_24, la_25, la_26, la_27, la_28, la_31, la_35, la_36, la_37, rm_0_1 hR, rm_0_2 hR, rm_0_3 hR, rm_0_4 hR, rm_0_15 hR, rm_0_16 hR, rm_0_17 hR, rm_0_18 hR, rm_0_19 hR, rm_0_20 hR, rm_0_23 hR, rm_0_24 hR, rm_0_25 hR, rm_0_26 hR, rm_0_27 hR, rm_0_28 hR, rm_0_31 hR, rm_0_35 hR, rm_0_36 hR, rm_0_37 hR, hL, gd_tt, oA_arr, px_obj_s, Option.bind_some, Option.map_some, Option.bind_none, eq_self, true_or, or_true, px_av_0, px_av_1, px_av_2, px_av_10, px_av_11, bn, wi_1, wi_2, wl_1, wl_21, wl_22, wr_1, wr_21, wr_22, Sum.elim_inl, Sum.elim_inr, ↓reduceIte, Nat.reduceLT, Nat.reduceLeDiff, not_false_eq_true, not_true_eq_false, Nat.reduceEqDiff, Nat.reduceAdd, reduceCtorEq, and_true, true_and, and_false, false_and, false_or, or_false, true_and, and_true, ni_divL, ni_subL, nI_add, pk_mul, nI_leI, nI_ltI, nI_eq, vp_in_eq, nI_clamp, ↓ni_tst, ni_tst2, fa_and, fa_or, ni_bit1, ni_1s, nI_l, mb_eq0, mb_ne0, mb_eq1, gd_tt, gd_t, bft, h3]
      rw [if_neg (by omega)]
    · show px_up υ.1 1 (1 + j) _ 1 (1 + k) = _
      rw [up_s]
      by_cases hkj : k = j
      · subst hkj; rw [if_pos rfl]
      · rw [if_neg (by omega)]; exact h2 k (by omega)) (fun s hI => by
    obtain ⟨x, υ⟩ := s
    obtain ⟨hx, h1, h2⟩ := hI
    dsimp only at hx h1 h2
    subst hx
    refine ⟨υ, ?_, h1, h2⟩
    simp (disch := omega) only [F_53_2, gd_tt, oA_arr, px_obj_s, Option.bind_some, Option.map_some, Option.bind_none, eq_self, true_or, or_true, px_av_0, px_av_1, px_av_2, px_av_10, px_av_11, bn, wi_1, wi_2, wl_1, wl_21, wl_22, wr_1, wr_21, wr_22, Sum.elim_inl, Sum.elim_inr, ↓reduceIte, Nat.reduceLT, Nat.reduceLeDiff, not_false_eq_true, not_true_eq_false, Nat.reduceEqDiff, Nat.reduceAdd, reduceCtorEq, and_true, true_and, and_false, false_and, false_or, or_false, true_and, and_true, ni_divL, ni_subL, nI_add, pk_mul, nI_leI, nI_ltI, nI_eq, vp_in_eq, nI_clamp, ↓ni_tst, ni_tst2, fa_and, fa_or, ni_bit1, ni_1s, nI_l, mb_eq0, mb_ne0, mb_eq1, gd_tt, gd_t, bft]) 0 (nI 0, σ) (by omega) ⟨rfl, fr_rf _ _, fun k hk => absurd hk (by omega)⟩
/-- the class's towns -/
theorem c_link (hc : ct σ t n B) {a b : Nat} (ha : a < n) (hb : b < n) (hab : a ≠ b) : ∃ υ, f_11009 tT σ t (nI a) (nI b) = some υ ∧ fr (tw2 t) σ υ ∧ ct υ t n (jn B a b) := by
  have hn := hc.2.2.2.1.1
  have hpr := c_isPair hc (a := a) (b := b) (by omega) (by omega)
  rw [decide_eq_true ⟨ha, hb, hab⟩, mb_t1] at hpr
  obtain ⟨l1, l2, hr, hw, h1, hnb⟩ := hc
  have hne : ¬ b = a := fun q => hab q.symm
  refine ⟨px_wi (px_wi σ (t + 1) a (nI (B a ||| 2 ^ b))) (t + 1) b (nI (B b ||| 2 ^ a)), ?_, fr_wi (fr_wi (fr_rf _ _) _ (tw2_1 t _)) _ (tw2_1 t _), l1, l2, hr, wf_jn hw ha hb hab, ?_, fun h hh => ?_⟩
  · simp (disch := omega) only [f_11009, l1, l2, hr, hpr, gd_tt, oA_arr, px_obj_s, Option.bind_some, Option.map_some, Option.bind_none, eq_self, true_or, or_true, px_av_0, px_av_1, px_av_2, px_av_10, px_av_11, bn, wi_1, wi_2, wl_1, wl_21, wl_22, wr_1, wr_21, wr_22, Sum.elim_inl, Sum.elim_inr, ↓reduceIte, Nat.reduceLT, Nat.reduceLeDiff, not_false_eq_true, not_true_eq_false, Nat.reduceEqDiff, Nat.reduceAdd, reduceCtorEq, and_true, true_and, and_false, false_and, false_or, or_false, true_and, and_true, ni_divL, ni_subL, nI_add, pk_mul, nI_leI, nI_ltI, nI_eq, vp_in_eq, nI_clamp, ↓ni_tst, ni_tst2, fa_and, fa_or, ni_bit1, ni_1s, nI_l, mb_eq0, mb_ne0, mb_eq1, gd_tt, gd_t, bft, hnb, up_s, hne]
  · show px_up (px_up σ.1 (t + 1) a _) (t + 1) b _ t 0 = _
    rw [px_up_row (by omega), px_up_row (by omega)]; exact h1
  · show px_up (px_up σ.1 (t + 1) a _) (t + 1) b _ (t + 1) h = _
    rw [up_s, up_s, hnb h hh]
    unfold jn
    by_cases h1 : h = a
    · subst h1; rw [if_neg (by omega), if_pos rfl, if_pos rfl]
    · by_cases h2 : h = b
      · subst h2; rw [if_pos rfl, if_neg h1, if_pos rfl]
      · rw [if_neg (by omega), if_neg (by omega), if_neg h1, if_neg h2]
theorem c_part (hc : ct σ t n B) {a b : Nat} (ha : a < n) (hb : b < n) (hab : a ≠ b) : ∃ υ, f_11010 tT σ t (nI a) (nI b) = some υ ∧ fr (tw2 t) σ υ ∧ ct υ t n (wl B a b) := by
  have hn := hc.2.2.2.1.1
  have hpr := c_isPair hc (a := a) (b := b) (by omega) (by omega)
  rw [decide_eq_true ⟨ha, hb, hab⟩, mb_t1] at hpr
  obtain ⟨l1, l2, hr, hw, h1, hnb⟩ := hc
  have hne : ¬ b = a := fun q => hab q.symm
  have hBa := wf_2048 hw a
  have hBb := wf_2048 hw b
  refine ⟨px_wi (px_wi σ (t + 1) a (nI (nd (B a) (2 ^ b)))) (t + 1) b (nI (nd (B b) (2 ^ a))), ?_, fr_wi (fr_wi (fr_rf _ _) _ (tw2_1 t _)) _ (tw2_1 t _), l1, l2, hr, wf_wl hw hab, ?_, fun h hh => ?_⟩
  · simp (disch := omega) only [f_11010, f_11010_23, l1, l2, hr, hpr, gd_tt, oA_arr, px_obj_s, Option.bind_some, Option.map_some, Option.bind_none, eq_self, true_or, or_true, px_av_0, px_av_1, px_av_2, px_av_10, px_av_11, bn, wi_1, wi_2, wl_1, wl_21, wl_22, wr_1, wr_21, wr_22, Sum.elim_inl, Sum.elim_inr, ↓reduceIte, Nat.reduceLT, Nat.reduceLeDiff, not_false_eq_true, not_true_eq_false, Nat.reduceEqDiff, Nat.reduceAdd, reduceCtorEq, and_true, true_and, and_false, false_and, false_or, or_false, true_and, and_true, ni_divL, ni_subL, nI_add, pk_mul, nI_leI, nI_ltI, nI_eq, vp_in_eq, nI_clamp, ↓ni_tst, ni_tst2, fa_and, fa_or, ni_bit1, ni_1s, nI_l, mb_eq0, mb_ne0, mb_eq1, gd_tt, gd_t, bft, hnb, up_s, hne, ni_nd]
  · show px_up (px_up σ.1 (t + 1) a _) (t + 1) b _ t 0 = _
    rw [px_up_row (by omega), px_up_row (by omega)]; exact h1
  · show px_up (px_up σ.1 (t + 1) a _) (t + 1) b _ (t + 1) h = _
    rw [up_s, up_s, hnb h hh]
    unfold wl
    by_cases h1 : h = a
    · subst h1; rw [if_neg (by omega), if_pos rfl, if_pos rfl]
    · by_cases h2 : h = b
      · subst h2; rw [if_pos rfl, if_neg h1, if_pos rfl]
      · rw [if_neg (by omega), if_neg (by omega), if_neg h1, if_neg h2]
theorem c_become {u : Nat} (hc : ct σ u n B) (lt : px_lay tT t = some (.inl 11)) (lt1 : px_lay tT (t + 1) = some (.inr (0, 11))) (hrt : σ.2.2 t 1 = some (t + 1)) (hut : u ≠ t) (hut1 : u ≠ t + 1) (hut2 : u + 1 ≠ t) : ∃ υ, f_11007 tT σ t u = some υ ∧ fr (tw2 t) σ υ ∧ ct υ t n B := by
  obtain ⟨l1, l2, hr, hw, h1, hnb⟩ := id hc
  have hkeep : ∀ υ, fr (tw2 t) σ υ → ct υ u n B := fun υ h => ct_fr h (fun j => tw2_n hut hut1) (fun j => tw2_n hut2 (by omega)) hc
  have lp : ∀ υ, fr (tw2 t) σ υ → υ.1 t 0 = nI n → υ.2.2 t 1 = some (t + 1) → ∃ ρ, f_11007_10 tT t u (nI 0) υ = some ρ ∧ fr (tw2 t) σ ρ ∧ ct ρ t n B := by
    intro υ hf h0 h4
    unfold f_11007_10
    exact lp_for (F := fun s : Int32 × px_M => F_11007_10 tT t u s.1 s.2) (fun j s => s.1 = nI j ∧ fr (tw2 t) σ s.2 ∧ s.2.1 t 0 = nI n ∧ s.2.2.2 t 1 = some (t + 1) ∧ ∀ k, k < j → s.2.1 (t + 1) k = nI (B k)) (fun b => fr (tw2 t) σ b ∧ ct b t n B) 11 (fun j s hj hI => by
      obtain ⟨x, ρ⟩ := s
      obtain ⟨hx, g1, g2, g3, g4⟩ := hI
      dsimp only at hx g1 g2 g3 g4
      subst hx
      obtain ⟨k1, k2, kr, -, kn, knb⟩ := hkeep ρ g1
      refine ⟨(nI (j + 1), px_wi ρ (t + 1) j (nI (B j))), ?_, rfl, fr_wi g1 _ (tw2_1 t _), ?_, g3, fun k hk => ?_⟩
      · simp (disch := omega) only [F_11007_10, lt, lt1, k1, k2, kr, g3, gd_tt, oA_arr, px_obj_s, Option.bind_some, Option.map_some, Option.bind_none, eq_self, true_or, or_true, px_av_0, px_av_1, px_av_2, px_av_10, px_av_11, bn, wi_1, wi_2, wl_1, wl_21, wl_22, wr_1, wr_21, wr_22, Sum.elim_inl, Sum.elim_inr, ↓reduceIte, Nat.reduceLT, Nat.reduceLeDiff, not_false_eq_true, not_true_eq_false, Nat.reduceEqDiff, Nat.reduceAdd, reduceCtorEq, and_true, true_and, and_false, false_and, false_or, or_false, true_and, and_true, ni_divL, ni_subL, nI_add, pk_mul, nI_leI, nI_ltI, nI_eq, vp_in_eq, nI_clamp, ↓ni_tst, ni_tst2, fa_and, fa_or, ni_bit1, ni_1s, nI_l, mb_eq0, mb_ne0, mb_eq1, gd_tt, gd_t, bft, knb]
        rw [if_neg (by omega)]
      · show px_up ρ.1 (t + 1) j _ t 0 = _
        rw [px_up_row (by omega)]; exact g2
      · show px_up ρ.1 (t + 1) j _ (t + 1) k = _
        rw [up_s]
        by_cases hkj : k = j
        · subst hkj; rw [if_pos rfl]
        · rw [if_neg hkj]; exact g4 k (by omega)) (fun s hI => by
      obtain ⟨x, ρ⟩ := s
      obtain ⟨hx, g1, g2, g3, g4⟩ := hI
      dsimp only at hx g1 g2 g3 g4
      subst hx
      refine ⟨ρ, ?_, g1, lt, lt1, g3, hw, g2, g4⟩
      simp (disch := omega) only [F_11007_10, gd_tt, oA_arr, px_obj_s, Option.bind_some, Option.map_some, Option.bind_none, eq_self, true_or, or_true, px_av_0, px_av_1, px_av_2, px_av_10, px_av_11, bn, wi_1, wi_2, wl_1, wl_21, wl_22, wr_1, wr_21, wr_22, Sum.elim_inl, Sum.elim_inr, ↓reduceIte, Nat.reduceLT, Nat.reduceLeDiff, not_false_eq_true, not_true_eq_false, Nat.reduceEqDiff, Nat.reduceAdd, reduceCtorEq, and_true, true_and, and_false, false_and, false_or, or_false, true_and, and_true, ni_divL, ni_subL, nI_add, pk_mul, nI_leI, nI_ltI, nI_eq, vp_in_eq, nI_clamp, ↓ni_tst, ni_tst2, fa_and, fa_or, ni_bit1, ni_1s, nI_l, mb_eq0, mb_ne0, mb_eq1, gd_tt, gd_t, bft]) 0 (nI 0, υ) (by omega) ⟨rfl, hf, h0, h4, fun k hk => absurd hk (by omega)⟩
  obtain ⟨ρ, q1, q2, q3⟩ := lp (px_wi σ t 0 (nI n)) (fr_wi (fr_rf _ _) _ (tw2_0 t _)) (px_up_s _ _ _ _) hrt
  refine ⟨ρ, ?_, q2, q3⟩
  simp only [f_11007, l1, lt, h1, gd_tt, oA_arr, px_obj_s, Option.bind_some, Option.map_some, Option.bind_none, eq_self, true_or, or_true, px_av_0, px_av_1, px_av_2, px_av_10, px_av_11, bn, wi_1, wi_2, wl_1, wl_21, wl_22, wr_1, wr_21, wr_22, Sum.elim_inl, Sum.elim_inr, ↓reduceIte, Nat.reduceLT, Nat.reduceLeDiff, not_false_eq_true, not_true_eq_false, Nat.reduceEqDiff, Nat.reduceAdd, reduceCtorEq, and_true, true_and, and_false, false_and, false_or, or_false, q1]
end
