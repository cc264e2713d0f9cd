/-! safe, wide, fours, scandal -/
section
variable {σ τ : px_M} {t n : Nat} {B : Nat → Nat}
theorem tb_all (n i : Nat) : (2 ^ n - 1).testBit i = decide (i < n) := Nat.testBit_two_pow_sub_one n i
theorem al_lt (hn : n ≤ 11) : 2 ^ n - 1 < 2048 := by have := pw_le hn; have := Nat.two_pow_pos n; omega
theorem e_safe (hm : mo σ n B) {h m : Nat} (hh : h < n) (hm10 : m ≤ 10) : ∃ υ, f_100_32 tT σ 0 (nI h) (nI m) = some (nI (nd (2 ^ n - 1) (rc B n m (2 ^ h))), υ) ∧ fr (on 15) σ υ := by
  obtain ⟨υ, q1, q2, q3⟩ := e_laysFar hm hh
  obtain ⟨hR, hw, e1, hnb⟩ := id (mo_on (by decide) q2 hm)
  have hn := hw.1
  refine ⟨υ, ?_, q2⟩
  have hs : bs (fun k => decide (m < ds n B h k)) n = nd (2 ^ n - 1) (rc B n m (2 ^ h)) := bs_eq (fun i hi => by
    have := ds_rc hw hh i (m := m) (by omega)
    rw [nd_tb (al_lt hn), tb_all, decide_eq_true hi, Bool.true_and]
    cases hb : (rc B n m (2 ^ h)).testBit i with
    | true => have := this.mpr hb; rw [decide_eq_false (by omega)]; rfl
    | false =>
      have : ¬ ds n B h i ≤ m := fun q => by rw [this.mp q] at hb; cases hb
      rw [decide_eq_true (by omega)]; rfl) (fun i hi => by rw [nd_tb (al_lt hn), tb_all, decide_eq_false (by omega)]; rfl)
  simp (disch := omega) only [f_100_32, la_0, q1, gd_tt, oA_arr, px_obj_s, Option.bind_some, Option.map_some, Option.bind_none, eq_self, true_or, or_true, px_av_0, px_av_1, px_av_2, px_av_10, px_av_11, bn, wi_1, wi_2, wl_1, wl_21, wl_22, wr_1, wr_21, wr_22, Sum.elim_inl, Sum.elim_inr, ↓reduceIte, Nat.reduceLT, Nat.reduceLeDiff, not_false_eq_true, not_true_eq_false, Nat.reduceEqDiff, Nat.reduceAdd, reduceCtorEq, and_true, true_and, and_false, false_and, false_or, or_false, true_and, and_true, ni_divL, ni_subL, nI_add, pk_mul, nI_leI, nI_ltI, nI_eq, vp_in_eq, nI_clamp, ↓ni_tst, ni_tst2, fa_and, fa_or, ni_bit1, ni_1s, nI_l, mb_eq0, mb_ne0, mb_eq1, gd_tt, gd_t, bft]
  rw [← hs]
  unfold f_100_43
  refine lp_to (I := fun j => (nI (bs (fun k => decide (m < ds n B h k)) j), nI j)) n (fun i hi => ?_) ?_ 0 (by omega)
  · have := ds_le (n := n) (B := B) h i
    simp (disch := omega) only [F_100_43, f_100_76, la_0, la_1, la_2, la_3, la_4, la_15, la_16, la_17, la_18, la_19, la_20, la_23, la_24, la_25, la_26, la_27, la_28, la_31, la_35, la_36, la_37, rm_0_1 hR, rm_0_2 hR, rm_0_3 hR, rm_0_4 hR, rm_0_15 hR, rm_0_16 hR, rm_0_17 hR, rm_0_18 hR, rm_0_19 hR, rm_0_20 hR, rm_0_23 hR, rm_0_24 hR, rm_0_25 hR, rm_0_26 hR, rm_0_27 hR, rm_0_28 hR, rm_0_31 hR, rm_0_35 hR, rm_0_36 hR, rm_0_37 hR, gd_tt, oA_arr, px_obj_s, Option.bind_some, Option.map_some, Option.bind_none, eq_self, true_or, or_true, px_av_0, px_av_1, px_av_2, px_av_10, px_av_11, bn, wi_1, wi_2, wl_1, wl_21, wl_22, wr_1, wr_21, wr_22, Sum.elim_inl, Sum.elim_inr, ↓reduceIte, Nat.reduceLT, Nat.reduceLeDiff, not_false_eq_true, not_true_eq_false, Nat.reduceEqDiff, Nat.reduceAdd, reduceCtorEq, and_true, true_and, and_false, false_and, false_or, or_false, true_and, and_true, ni_divL, ni_subL, nI_add, pk_mul, nI_leI, nI_ltI, nI_eq, vp_in_eq, nI_clamp, ↓ni_tst, ni_tst2, fa_and, fa_or, ni_bit1, ni_1s, nI_l, mb_eq0, mb_ne0, mb_eq1, gd_tt, gd_t, bft, e1, q3]
    rw [if_neg (by omega)]
    by_cases h4 : ds n B h i ≤ m
    · simp [bs, h4, show ¬ m < ds n B h i by omega]
    · simp [bs, h4, show m < ds n B h i by omega]
  · simp (disch := omega) only [F_100_43, la_0, la_1, la_2, la_3, la_4, la_15, la_16, la_17, la_18, la_19, la_20, la_23, la_24, la_25, la_26, la_27, la_28, la_31, la_35, la_36, la_37, rm_0_1 hR, rm_0_2 hR, rm_0_3 hR, rm_0_4 hR, rm_0_15 hR, rm_0_16 hR, rm_0_17 hR, rm_0_18 hR, rm_0_19 hR, rm_0_20 hR, rm_0_23 hR, rm_0_24 hR, rm_0_25 hR, rm_0_26 hR, rm_0_27 hR, rm_0_28 hR, rm_0_31 hR, rm_0_35 hR, rm_0_36 hR, rm_0_37 hR, gd_tt, oA_arr, px_obj_s, Option.bind_some, Option.map_some, Option.bind_none, eq_self, true_or, or_true, px_av_0, px_av_1, px_av_2, px_av_10, px_av_11, bn, wi_1, wi_2, wl_1, wl_21, wl_22, wr_1, wr_21, wr_22, Sum.elim_inl, Sum.elim_inr, ↓reduceIte, Nat.reduceLT, Nat.reduceLeDiff, not_false_eq_true, not_true_eq_false, Nat.reduceEqDiff, Nat.reduceAdd, reduceCtorEq, and_true, true_and, and_false, false_and, false_or, or_false, true_and, and_true, ni_divL, ni_subL, nI_add, pk_mul, nI_leI, nI_ltI, nI_eq, vp_in_eq, nI_clamp, ↓ni_tst, ni_tst2, fa_and, fa_or, ni_bit1, ni_1s, nI_l, mb_eq0, mb_ne0, mb_eq1, gd_tt, gd_t, bft, e1]
    rw [if_pos (by omega)]
theorem a_safe (hc : cl σ n B) (v w : Int32) : agQ (f_12037 tT σ 100 v w) (fun τ => f_100 tT τ 0 v w) n B := by
  obtain ⟨hR, ht⟩ := hc
  have hw := ht.2.2.2.1
  have hn := hw.1
  rcases hs_cases v hn with ⟨h, hh, rfl⟩ | hno
  · rcases rg_cases w 0 10 (by omega) with ⟨m, -, hm10, rfl⟩ | hno
    · refine ⟨nI (nd (2 ^ n - 1) (rc B n m (2 ^ h))), ?_, fun τ hm => ?_⟩
      · have hal := al_lt hn
        simp (disch := omega) only [f_12037, f_12037_30, la_100, la_102, la_103, la_104, la_105, la_110, la_111, la_112, la_113, la_114, la_115, la_116, la_117, la_120, la_121, la_122, la_123, la_124, la_125, la_126, la_127, la_130, la_131, la_132, la_133, la_134, la_135, la_136, la_137, la_140, la_141, la_142, la_143, la_144, la_145, la_146, la_147, la_150, la_151, la_152, la_153, la_160, la_161, la_170, la_171, la_172, la_173, la_174, la_180, la_181, la_182, la_183, la_184, la_185, la_186, la_190, la_191, la_192, la_193, la_194, la_195, la_200, la_201, la_202, la_210, la_211, la_212, la_213, la_214, la_215, la_216, la_217, la_218, la_219, la_220, la_221, la_222, la_223, la_224, la_225, la_226, la_230, la_231, la_232, la_233, la_234, la_240, la_241, rc_100_0 hR, rc_100_1 hR, rc_100_2 hR, rc_100_3 hR, rc_100_4 hR, rc_100_5 hR, rc_100_6 hR, rc_100_7 hR, rc_100_8 hR, rc_100_9 hR, rc_100_10 hR, rc_100_11 hR, rc_100_12 hR, rc_100_13 hR, rc_100_14 hR, rc_100_15 hR, rc_111_1 hR, rc_113_1 hR, rc_113_2 hR, rc_113_3 hR, rc_110_0 hR, rc_110_1 hR, rc_110_5 hR, rc_121_1 hR, rc_123_1 hR, rc_123_2 hR, rc_123_3 hR, rc_120_0 hR, rc_120_1 hR, rc_120_5 hR, rc_131_1 hR, rc_133_1 hR, rc_133_2 hR, rc_133_3 hR, rc_130_0 hR, rc_130_1 hR, rc_130_5 hR, rc_141_1 hR, rc_143_1 hR, rc_143_2 hR, rc_143_3 hR, rc_140_0 hR, rc_140_1 hR, rc_140_5 hR, rc_150_3 hR, rc_150_4 hR, rc_150_5 hR, rc_150_6 hR, rc_160_0 hR, rc_173_1 hR, rc_170_0 hR, rc_170_1 hR, rc_181_0 hR, rc_185_1 hR, rc_180_0 hR, rc_180_1 hR, rc_180_2 hR, rc_192_1 hR, rc_194_1 hR, rc_190_0 hR, rc_201_1 hR, rc_200_0 hR, rc_214_1 hR, rc_211_0 hR, rc_211_1 hR, rc_216_1 hR, rc_221_1 hR, rc_221_2 hR, rc_221_3 hR, rc_225_1 hR, rc_210_0 hR, rc_210_1 hR, rc_210_2 hR, rc_210_3 hR, rc_210_4 hR, rc_231_1 hR, rc_233_1 hR, rc_230_0 hR, rc_230_1 hR, rc_240_1 hR, c_hasI ht hh, c_all ht, c_within ht hh (show m ≤ 11 by omega), n10, gd_tt, oA_arr, px_obj_s, Option.bind_some, Option.map_some, Option.bind_none, eq_self, true_or, or_true, px_av_0, px_av_1, px_av_2, px_av_10, px_av_11, bn, wi_1, wi_2, wl_1, wl_21, wl_22, wr_1, wr_21, wr_22, Sum.elim_inl, Sum.elim_inr, ↓reduceIte, Nat.reduceLT, Nat.reduceLeDiff, not_false_eq_true, not_true_eq_false, Nat.reduceEqDiff, Nat.reduceAdd, reduceCtorEq, and_true, true_and, and_false, false_and, false_or, or_false, true_and, and_true, ni_divL, ni_subL, nI_add, pk_mul, nI_leI, nI_ltI, nI_eq, vp_in_eq, nI_clamp, ↓ni_tst, ni_tst2, fa_and, fa_or, ni_bit1, ni_1s, nI_l, mb_eq0, mb_ne0, mb_eq1, gd_tt, gd_t, bft, ni_nd]
        rw [if_neg (by omega), if_pos (by omega)]
      · have hm0 := mo_thr hm
        obtain ⟨υ, q1, q2⟩ := e_safe hm0 hh hm10
        refine ⟨υ, ?_, fr_tr (fr_thr (fr_rf _ _)) (fr_15 q2)⟩
        have hk := e_withinN (px_wi τ 0 0 (nI 0)) (nI m) (lo := 0) (hi := 10) (by omega) (by omega)
        rw [nI_toInt (by omega), decide_eq_true (by omega), mb_t1] at hk
        simp only [f_100, la_0, la_1, la_2, la_3, la_4, la_15, la_16, la_17, la_18, la_19, la_20, la_23, la_24, la_25, la_26, la_27, la_28, la_31, la_35, la_36, la_37, gd_tt, oA_arr, px_obj_s, Option.bind_some, Option.map_some, Option.bind_none, eq_self, true_or, or_true, px_av_0, px_av_1, px_av_2, px_av_10, px_av_11, bn, wi_1, wi_2, wl_1, wl_21, wl_22, wr_1, wr_21, wr_22, Sum.elim_inl, Sum.elim_inr, ↓reduceIte, Nat.reduceLT, Nat.reduceLeDiff, not_false_eq_true, not_true_eq_false, Nat.reduceEqDiff, Nat.reduceAdd, reduceCtorEq, and_true, true_and, and_false, false_and, false_or, or_false, e_hs hm0 hh, hk, q1, n10]
    · refine ⟨-3, ?_, fun τ hm => ⟨px_wi τ 0 0 (nI 0), ?_, fr_thr (fr_rf _ _)⟩⟩
      · simp only [f_12037, f_12037_27, la_100, la_102, la_103, la_104, la_105, la_110, la_111, la_112, la_113, la_114, la_115, la_116, la_117, la_120, la_121, la_122, la_123, la_124, la_125, la_126, la_127, la_130, la_131, la_132, la_133, la_134, la_135, la_136, la_137, la_140, la_141, la_142, la_143, la_144, la_145, la_146, la_147, la_150, la_151, la_152, la_153, la_160, la_161, la_170, la_171, la_172, la_173, la_174, la_180, la_181, la_182, la_183, la_184, la_185, la_186, la_190, la_191, la_192, la_193, la_194, la_195, la_200, la_201, la_202, la_210, la_211, la_212, la_213, la_214, la_215, la_216, la_217, la_218, la_219, la_220, la_221, la_222, la_223, la_224, la_225, la_226, la_230, la_231, la_232, la_233, la_234, la_240, la_241, rc_100_0 hR, rc_100_1 hR, rc_100_2 hR, rc_100_3 hR, rc_100_4 hR, rc_100_5 hR, rc_100_6 hR, rc_100_7 hR, rc_100_8 hR, rc_100_9 hR, rc_100_10 hR, rc_100_11 hR, rc_100_12 hR, rc_100_13 hR, rc_100_14 hR, rc_100_15 hR, rc_111_1 hR, rc_113_1 hR, rc_113_2 hR, rc_113_3 hR, rc_110_0 hR, rc_110_1 hR, rc_110_5 hR, rc_121_1 hR, rc_123_1 hR, rc_123_2 hR, rc_123_3 hR, rc_120_0 hR, rc_120_1 hR, rc_120_5 hR, rc_131_1 hR, rc_133_1 hR, rc_133_2 hR, rc_133_3 hR, rc_130_0 hR, rc_130_1 hR, rc_130_5 hR, rc_141_1 hR, rc_143_1 hR, rc_143_2 hR, rc_143_3 hR, rc_140_0 hR, rc_140_1 hR, rc_140_5 hR, rc_150_3 hR, rc_150_4 hR, rc_150_5 hR, rc_150_6 hR, rc_160_0 hR, rc_173_1 hR, rc_170_0 hR, rc_170_1 hR, rc_181_0 hR, rc_185_1 hR, rc_180_0 hR, rc_180_1 hR, rc_180_2 hR, rc_192_1 hR, rc_194_1 hR, rc_190_0 hR, rc_201_1 hR, rc_200_0 hR, rc_214_1 hR, rc_211_0 hR, rc_211_1 hR, rc_216_1 hR, rc_221_1 hR, rc_221_2 hR, rc_221_3 hR, rc_225_1 hR, rc_210_0 hR, rc_210_1 hR, rc_210_2 hR, rc_210_3 hR, rc_210_4 hR, rc_231_1 hR, rc_233_1 hR, rc_230_0 hR, rc_230_1 hR, rc_240_1 hR, gd_tt, oA_arr, px_obj_s, Option.bind_some, Option.map_some, Option.bind_none, eq_self, true_or, or_true, px_av_0, px_av_1, px_av_2, px_av_10, px_av_11, bn, wi_1, wi_2, wl_1, wl_21, wl_22, wr_1, wr_21, wr_22, Sum.elim_inl, Sum.elim_inr, ↓reduceIte, Nat.reduceLT, Nat.reduceLeDiff, not_false_eq_true, not_true_eq_false, Nat.reduceEqDiff, Nat.reduceAdd, reduceCtorEq, and_true, true_and, and_false, false_and, false_or, or_false, c_hasI ht hh, n10]
        exact rg_no (by omega) (by omega) hno
      · have hk := e_withinN (px_wi τ 0 0 (nI 0)) w (lo := 0) (hi := 10) (by omega) (by omega)
        rw [decide_eq_false hno, mb_f0] at hk
        simp only [f_100, f_100_29, la_0, la_1, la_2, la_3, la_4, la_15, la_16, la_17, la_18, la_19, la_20, la_23, la_24, la_25, la_26, la_27, la_28, la_31, la_35, la_36, la_37, gd_tt, oA_arr, px_obj_s, Option.bind_some, Option.map_some, Option.bind_none, eq_self, true_or, or_true, px_av_0, px_av_1, px_av_2, px_av_10, px_av_11, bn, wi_1, wi_2, wl_1, wl_21, wl_22, wr_1, wr_21, wr_22, Sum.elim_inl, Sum.elim_inr, ↓reduceIte, Nat.reduceLT, Nat.reduceLeDiff, not_false_eq_true, not_true_eq_false, Nat.reduceEqDiff, Nat.reduceAdd, reduceCtorEq, and_true, true_and, and_false, false_and, false_or, or_false, e_hs (mo_thr hm) hh, hk, n10]
  · refine ⟨-2, ?_, fun τ hm => ⟨px_wi τ 0 0 (nI 0), ?_, fr_thr (fr_rf _ _)⟩⟩
    · simp only [f_12037, la_100, la_102, la_103, la_104, la_105, la_110, la_111, la_112, la_113, la_114, la_115, la_116, la_117, la_120, la_121, la_122, la_123, la_124, la_125, la_126, la_127, la_130, la_131, la_132, la_133, la_134, la_135, la_136, la_137, la_140, la_141, la_142, la_143, la_144, la_145, la_146, la_147, la_150, la_151, la_152, la_153, la_160, la_161, la_170, la_171, la_172, la_173, la_174, la_180, la_181, la_182, la_183, la_184, la_185, la_186, la_190, la_191, la_192, la_193, la_194, la_195, la_200, la_201, la_202, la_210, la_211, la_212, la_213, la_214, la_215, la_216, la_217, la_218, la_219, la_220, la_221, la_222, la_223, la_224, la_225, la_226, la_230, la_231, la_232, la_233, la_234, la_240, la_241, rc_100_0 hR, rc_100_1 hR, rc_100_2 hR, rc_100_3 hR, rc_100_4 hR, rc_100_5 hR, rc_100_6 hR, rc_100_7 hR, rc_100_8 hR, rc_100_9 hR, rc_100_10 hR, rc_100_11 hR, rc_100_12 hR, rc_100_13 hR, rc_100_14 hR, rc_100_15 hR, rc_111_1 hR, rc_113_1 hR, rc_113_2 hR, rc_113_3 hR, rc_110_0 hR, rc_110_1 hR, rc_110_5 hR, rc_121_1 hR, rc_123_1 hR, rc_123_2 hR, rc_123_3 hR, rc_120_0 hR, rc_120_1 hR, rc_120_5 hR, rc_131_1 hR, rc_133_1 hR, rc_133_2 hR, rc_133_3 hR, rc_130_0 hR, rc_130_1 hR, rc_130_5 hR, rc_141_1 hR, rc_143_1 hR, rc_143_2 hR, rc_143_3 hR, rc_140_0 hR, rc_140_1 hR, rc_140_5 hR, rc_150_3 hR, rc_150_4 hR, rc_150_5 hR, rc_150_6 hR, rc_160_0 hR, rc_173_1 hR, rc_170_0 hR, rc_170_1 hR, rc_181_0 hR, rc_185_1 hR, rc_180_0 hR, rc_180_1 hR, rc_180_2 hR, rc_192_1 hR, rc_194_1 hR, rc_190_0 hR, rc_201_1 hR, rc_200_0 hR, rc_214_1 hR, rc_211_0 hR, rc_211_1 hR, rc_216_1 hR, rc_221_1 hR, rc_221_2 hR, rc_221_3 hR, rc_225_1 hR, rc_210_0 hR, rc_210_1 hR, rc_210_2 hR, rc_210_3 hR, rc_210_4 hR, rc_231_1 hR, rc_233_1 hR, rc_230_0 hR, rc_230_1 hR, rc_240_1 hR, gd_tt, oA_arr, px_obj_s, Option.bind_some, Option.map_some, Option.bind_none, eq_self, true_or, or_true, px_av_0, px_av_1, px_av_2, px_av_10, px_av_11, bn, wi_1, wi_2, wl_1, wl_21, wl_22, wr_1, wr_21, wr_22, Sum.elim_inl, Sum.elim_inr, ↓reduceIte, Nat.reduceLT, Nat.reduceLeDiff, not_false_eq_true, not_true_eq_false, Nat.reduceEqDiff, Nat.reduceAdd, reduceCtorEq, and_true, true_and, and_false, false_and, false_or, or_false, c_has0 ht hno]
    · simp only [f_100, la_0, la_1, la_2, la_3, la_4, la_15, la_16, la_17, la_18, la_19, la_20, la_23, la_24, la_25, la_26, la_27, la_28, la_31, la_35, la_36, la_37, gd_tt, oA_arr, px_obj_s, Option.bind_some, Option.map_some, Option.bind_none, eq_self, true_or, or_true, px_av_0, px_av_1, px_av_2, px_av_10, px_av_11, bn, wi_1, wi_2, wl_1, wl_21, wl_22, wr_1, wr_21, wr_22, Sum.elim_inl, Sum.elim_inr, ↓reduceIte, Nat.reduceLT, Nat.reduceLeDiff, not_false_eq_true, not_true_eq_false, Nat.reduceEqDiff, Nat.reduceAdd, reduceCtorEq, and_true, true_and, and_false, false_and, false_or, or_false, e_hs0 (mo_thr hm) hno]
/-! the widest pair -/
def w2 (n : Nat) (B : Nat → Nat) (a b : Nat) (s : Nat × Int32) : Nat × Int32 := if ds n B a b < 99 ∧ s.1 < ds n B a b then (ds n B a b, nI (100 * a + b)) else s
def wi (n : Nat) (B : Nat → Nat) (a : Nat) (s : Nat × Int32) : Nat → Nat × Int32
  | 0 => s
  | j + 1 => if a < j then w2 n B a j (wi n B a s j) else wi n B a s j
def wo (n : Nat) (B : Nat → Nat) : Nat → Nat × Int32
  | 0 => (0, -1)
  | a + 1 => wi n B a (wo n B a) n
theorem wi_lo (a : Nat) (s : Nat × Int32) : ∀ j, j ≤ a + 1 → wi n B a s j = s := by
  intro j
  induction j with
  | zero => intro _; rfl
  | succ j ih => intro h; simp only [wi]; rw [if_neg (by omega), ih (by omega)]
theorem w2_le {a b : Nat} {s : Nat × Int32} (h : s.1 ≤ 99) : (w2 n B a b s).1 ≤ 99 := by
  unfold w2
  split
  · show ds n B a b ≤ 99; omega
  · exact h
theorem wi_le {a : Nat} {s : Nat × Int32} (h : s.1 ≤ 99) : ∀ j, (wi n B a s j).1 ≤ 99 := by
  intro j
  induction j with
  | zero => exact h
  | succ j ih =>
    simp only [wi]
    split
    · exact w2_le ih
    · exact ih
theorem wo_le : ∀ a, (wo n B a).1 ≤ 99 := by
  intro a
  induction a with
  | zero => show 0 ≤ 99; omega
  | succ a ih => exact wi_le ih n
theorem a_wide (hc : cl σ n B) (v : Int32) : agQ (f_12038 tT σ 100 v) (fun τ => f_101 tT τ 0 v) n B := by
  obtain ⟨hR, ht⟩ := hc
  have hw := ht.2.2.2.1
  have hn := hw.1
  have hst := @c_steps σ 111 n B ht
  rcases rg_cases v 0 1 (by omega) with ⟨k, -, hk1, rfl⟩ | hno
  · refine ⟨if k = 1 ∨ n = 0 then (wo n B n).2 else nI (wo n B n).1, ?_, fun τ hm => ?_⟩
    · have h1 := ht.2.2.2.2.1
      have inner : ∀ a s, a < n → s.1 ≤ 99 → f_12038_55 tT σ 100 (nI k) (nI a) (nI s.1) s.2 (nI (a + 1)) = some (.inl (nI (wi n B a s n).1, (wi n B a s n).2, nI (a + 1))) := by
        intro a s ha hs99
        unfold f_12038_55
        have := lp_to (F := fun q : Int32 × Int32 × Int32 => F_12038_55 tT σ 100 (nI k) (nI a) q.1 q.2.1 q.2.2) (I := fun j => (nI (wi n B a s (a + 1 + j)).1, (wi n B a s (a + 1 + j)).2, nI (a + 1 + j))) (b := .inl (nI (wi n B a s n).1, (wi n B a s n).2, nI (a + 1))) (n - (a + 1)) (fun i hi => by
          have hl := wi_le (n := n) (B := B) (a := a) hs99 (a + 1 + i)
          have hd := ds_le (n := n) (B := B) a (a + 1 + i)
          have hai : a < a + 1 + i := by omega
          have hin : a + 1 + i < n := by omega
          rw [show a + 1 + (i + 1) = (a + 1 + i) + 1 by omega]
          generalize a + 1 + i = j at *
          simp only [wi, if_pos hai]
          generalize wi n B a s j = q at *
          simp (disch := omega) only [F_12038_55, f_12038_104, la_100, la_102, la_103, la_104, la_105, la_110, la_111, la_112, la_113, la_114, la_115, la_116, la_117, la_120, la_121, la_122, la_123, la_124, la_125, la_126, la_127, la_130, la_131, la_132, la_133, la_134, la_135, la_136, la_137, la_140, la_141, la_142, la_143, la_144, la_145, la_146, la_147, la_150, la_151, la_152, la_153, la_160, la_161, la_170, la_171, la_172, la_173, la_174, la_180, la_181, la_182, la_183, la_184, la_185, la_186, la_190, la_191, la_192, la_193, la_194, la_195, la_200, la_201, la_202, la_210, la_211, la_212, la_213, la_214, la_215, la_216, la_217, la_218, la_219, la_220, la_221, la_222, la_223, la_224, la_225, la_226, la_230, la_231, la_232, la_233, la_234, la_240, la_241, rc_100_0 hR, rc_100_1 hR, rc_100_2 hR, rc_100_3 hR, rc_100_4 hR, rc_100_5 hR, rc_100_6 hR, rc_100_7 hR, rc_100_8 hR, rc_100_9 hR, rc_100_10 hR, rc_100_11 hR, rc_100_12 hR, rc_100_13 hR, rc_100_14 hR, rc_100_15 hR, rc_111_1 hR, rc_113_1 hR, rc_113_2 hR, rc_113_3 hR, rc_110_0 hR, rc_110_1 hR, rc_110_5 hR, rc_121_1 hR, rc_123_1 hR, rc_123_2 hR, rc_123_3 hR, rc_120_0 hR, rc_120_1 hR, rc_120_5 hR, rc_131_1 hR, rc_133_1 hR, rc_133_2 hR, rc_133_3 hR, rc_130_0 hR, rc_130_1 hR, rc_130_5 hR, rc_141_1 hR, rc_143_1 hR, rc_143_2 hR, rc_143_3 hR, rc_140_0 hR, rc_140_1 hR, rc_140_5 hR, rc_150_3 hR, rc_150_4 hR, rc_150_5 hR, rc_150_6 hR, rc_160_0 hR, rc_173_1 hR, rc_170_0 hR, rc_170_1 hR, rc_181_0 hR, rc_185_1 hR, rc_180_0 hR, rc_180_1 hR, rc_180_2 hR, rc_192_1 hR, rc_194_1 hR, rc_190_0 hR, rc_201_1 hR, rc_200_0 hR, rc_214_1 hR, rc_211_0 hR, rc_211_1 hR, rc_216_1 hR, rc_221_1 hR, rc_221_2 hR, rc_221_3 hR, rc_225_1 hR, rc_210_0 hR, rc_210_1 hR, rc_210_2 hR, rc_210_3 hR, rc_210_4 hR, rc_231_1 hR, rc_233_1 hR, rc_230_0 hR, rc_230_1 hR, rc_240_1 hR, h1, gd_tt, oA_arr, px_obj_s, Option.bind_some, Option.map_some, Option.bind_none, eq_self, true_or, or_true, px_av_0, px_av_1, px_av_2, px_av_10, px_av_11, bn, wi_1, wi_2, wl_1, wl_21, wl_22, wr_1, wr_21, wr_22, Sum.elim_inl, Sum.elim_inr, ↓reduceIte, Nat.reduceLT, Nat.reduceLeDiff, not_false_eq_true, not_true_eq_false, Nat.reduceEqDiff, Nat.reduceAdd, reduceCtorEq, and_true, true_and, and_false, false_and, false_or, or_false, true_and, and_true, ni_divL, ni_subL, nI_add, pk_mul, nI_leI, nI_ltI, nI_eq, vp_in_eq, nI_clamp, ↓ni_tst, ni_tst2, fa_and, fa_or, ni_bit1, ni_1s, nI_l, mb_eq0, mb_ne0, mb_eq1, gd_tt, gd_t, bft, hst]
          rw [if_neg (by omega)]
          unfold w2 oD
          by_cases h99 : ds n B a j < 99
          · by_cases h3 : q.1 < ds n B a j
            · simp only [h99, h3, ↓reduceIte, and_self]
              rw [if_neg (by rw [nI_leI (by omega) (by omega)]; omega)]
            · simp only [h99, h3, ↓reduceIte, and_false]
              rw [if_pos (by rw [nI_leI (by omega) (by omega)]; omega)]
          · simp only [h99, ↓reduceIte, false_and]
            rw [if_pos (by rw [fa_le, nI_toInt (by omega)]; have : (-1 : Int32).toInt = -1 := by decide
                           omega)]) (by
          rw [show a + 1 + (n - (a + 1)) = n by omega]
          simp (disch := omega) only [F_12038_55, la_100, la_102, la_103, la_104, la_105, la_110, la_111, la_112, la_113, la_114, la_115, la_116, la_117, la_120, la_121, la_122, la_123, la_124, la_125, la_126, la_127, la_130, la_131, la_132, la_133, la_134, la_135, la_136, la_137, la_140, la_141, la_142, la_143, la_144, la_145, la_146, la_147, la_150, la_151, la_152, la_153, la_160, la_161, la_170, la_171, la_172, la_173, la_174, la_180, la_181, la_182, la_183, la_184, la_185, la_186, la_190, la_191, la_192, la_193, la_194, la_195, la_200, la_201, la_202, la_210, la_211, la_212, la_213, la_214, la_215, la_216, la_217, la_218, la_219, la_220, la_221, la_222, la_223, la_224, la_225, la_226, la_230, la_231, la_232, la_233, la_234, la_240, la_241, rc_100_0 hR, rc_100_1 hR, rc_100_2 hR, rc_100_3 hR, rc_100_4 hR, rc_100_5 hR, rc_100_6 hR, rc_100_7 hR, rc_100_8 hR, rc_100_9 hR, rc_100_10 hR, rc_100_11 hR, rc_100_12 hR, rc_100_13 hR, rc_100_14 hR, rc_100_15 hR, rc_111_1 hR, rc_113_1 hR, rc_113_2 hR, rc_113_3 hR, rc_110_0 hR, rc_110_1 hR, rc_110_5 hR, rc_121_1 hR, rc_123_1 hR, rc_123_2 hR, rc_123_3 hR, rc_120_0 hR, rc_120_1 hR, rc_120_5 hR, rc_131_1 hR, rc_133_1 hR, rc_133_2 hR, rc_133_3 hR, rc_130_0 hR, rc_130_1 hR, rc_130_5 hR, rc_141_1 hR, rc_143_1 hR, rc_143_2 hR, rc_143_3 hR, rc_140_0 hR, rc_140_1 hR, rc_140_5 hR, rc_150_3 hR, rc_150_4 hR, rc_150_5 hR, rc_150_6 hR, rc_160_0 hR, rc_173_1 hR, rc_170_0 hR, rc_170_1 hR, rc_181_0 hR, rc_185_1 hR, rc_180_0 hR, rc_180_1 hR, rc_180_2 hR, rc_192_1 hR, rc_194_1 hR, rc_190_0 hR, rc_201_1 hR, rc_200_0 hR, rc_214_1 hR, rc_211_0 hR, rc_211_1 hR, rc_216_1 hR, rc_221_1 hR, rc_221_2 hR, rc_221_3 hR, rc_225_1 hR, rc_210_0 hR, rc_210_1 hR, rc_210_2 hR, rc_210_3 hR, rc_210_4 hR, rc_231_1 hR, rc_233_1 hR, rc_230_0 hR, rc_230_1 hR, rc_240_1 hR, h1, gd_tt, oA_arr, px_obj_s, Option.bind_some, Option.map_some, Option.bind_none, eq_self, true_or, or_true, px_av_0, px_av_1, px_av_2, px_av_10, px_av_11, bn, wi_1, wi_2, wl_1, wl_21, wl_22, wr_1, wr_21, wr_22, Sum.elim_inl, Sum.elim_inr, ↓reduceIte, Nat.reduceLT, Nat.reduceLeDiff, not_false_eq_true, not_true_eq_false, Nat.reduceEqDiff, Nat.reduceAdd, reduceCtorEq, and_true, true_and, and_false, false_and, false_or, or_false, true_and, and_true, ni_divL, ni_subL, nI_add, pk_mul, nI_leI, nI_ltI, nI_eq, vp_in_eq, nI_clamp, ↓ni_tst, ni_tst2, fa_and, fa_or, ni_bit1, ni_1s, nI_l, mb_eq0, mb_ne0, mb_eq1, gd_tt, gd_t, bft]
          rw [if_pos (by omega)]) 0 (by omega)
        rw [Nat.add_zero, wi_lo a s (a + 1) (by omega)] at this
        exact this
      have outer : f_12038_34 tT σ 100 (nI k) (nI 0) (-1) (nI 0) = some (if k = 1 then (wo n B n).2 else nI (wo n B n).1) := by
        unfold f_12038_34
        refine lp_to (I := fun j => (nI (wo n B j).1, (wo n B j).2, nI j)) n (fun i hi => ?_) ?_ 0 (by omega)
        · have hl := wo_le (n := n) (B := B) i
          simp (disch := omega) only [F_12038_34, la_100, la_102, la_103, la_104, la_105, la_110, la_111, la_112, la_113, la_114, la_115, la_116, la_117, la_120, la_121, la_122, la_123, la_124, la_125, la_126, la_127, la_130, la_131, la_132, la_133, la_134, la_135, la_136, la_137, la_140, la_141, la_142, la_143, la_144, la_145, la_146, la_147, la_150, la_151, la_152, la_153, la_160, la_161, la_170, la_171, la_172, la_173, la_174, la_180, la_181, la_182, la_183, la_184, la_185, la_186, la_190, la_191, la_192, la_193, la_194, la_195, la_200, la_201, la_202, la_210, la_211, la_212, la_213, la_214, la_215, la_216, la_217, la_218, la_219, la_220, la_221, la_222, la_223, la_224, la_225, la_226, la_230, la_231, la_232, la_233, la_234, la_240, la_241, rc_100_0 hR, rc_100_1 hR, rc_100_2 hR, rc_100_3 hR, rc_100_4 hR, rc_100_5 hR, rc_100_6 hR, rc_100_7 hR, rc_100_8 hR, rc_100_9 hR, rc_100_10 hR, rc_100_11 hR, rc_100_12 hR, rc_100_13 hR, rc_100_14 hR, rc_100_15 hR, rc_111_1 hR, rc_113_1 hR, rc_113_2 hR, rc_113_3 hR, rc_110_0 hR, rc_110_1 hR, rc_110_5 hR, rc_121_1 hR, rc_123_1 hR, rc_123_2 hR, rc_123_3 hR, rc_120_0 hR, rc_120_1 hR, rc_120_5 hR, rc_131_1 hR, rc_133_1 hR, rc_133_2 hR, rc_133_3 hR, rc_130_0 hR, rc_130_1 hR, rc_130_5 hR, rc_141_1 hR, rc_143_1 hR, rc_143_2 hR, rc_143_3 hR, rc_140_0 hR, rc_140_1 hR, rc_140_5 hR, rc_150_3 hR, rc_150_4 hR, rc_150_5 hR, rc_150_6 hR, rc_160_0 hR, rc_173_1 hR, rc_170_0 hR, rc_170_1 hR, rc_181_0 hR, rc_185_1 hR, rc_180_0 hR, rc_180_1 hR, rc_180_2 hR, rc_192_1 hR, rc_194_1 hR, rc_190_0 hR, rc_201_1 hR, rc_200_0 hR, rc_214_1 hR, rc_211_0 hR, rc_211_1 hR, rc_216_1 hR, rc_221_1 hR, rc_221_2 hR, rc_221_3 hR, rc_225_1 hR, rc_210_0 hR, rc_210_1 hR, rc_210_2 hR, rc_210_3 hR, rc_210_4 hR, rc_231_1 hR, rc_233_1 hR, rc_230_0 hR, rc_230_1 hR, rc_240_1 hR, h1, gd_tt, oA_arr, px_obj_s, Option.bind_some, Option.map_some, Option.bind_none, eq_self, true_or, or_true, px_av_0, px_av_1, px_av_2, px_av_10, px_av_11, bn, wi_1, wi_2, wl_1, wl_21, wl_22, wr_1, wr_21, wr_22, Sum.elim_inl, Sum.elim_inr, ↓reduceIte, Nat.reduceLT, Nat.reduceLeDiff, not_false_eq_true, not_true_eq_false, Nat.reduceEqDiff, Nat.reduceAdd, reduceCtorEq, and_true, true_and, and_false, false_and, false_or, or_false, true_and, and_true, ni_divL, ni_subL, nI_add, pk_mul, nI_leI, nI_ltI, nI_eq, vp_in_eq, nI_clamp, ↓ni_tst, ni_tst2, fa_and, fa_or, ni_bit1, ni_1s, nI_l, mb_eq0, mb_ne0, mb_eq1, gd_tt, gd_t, bft, inner]
          rw [if_neg (by omega)]
          rfl
        · simp (disch := omega) only [F_12038_34, la_100, la_102, la_103, la_104, la_105, la_110, la_111, la_112, la_113, la_114, la_115, la_116, la_117, la_120, la_121, la_122, la_123, la_124, la_125, la_126, la_127, la_130, la_131, la_132, la_133, la_134, la_135, la_136, la_137, la_140, la_141, la_142, la_143, la_144, la_145, la_146, la_147, la_150, la_151, la_152, la_153, la_160, la_161, la_170, la_171, la_172, la_173, la_174, la_180, la_181, la_182, la_183, la_184, la_185, la_186, la_190, la_191, la_192, la_193, la_194, la_195, la_200, la_201, la_202, la_210, la_211, la_212, la_213, la_214, la_215, la_216, la_217, la_218, la_219, la_220, la_221, la_222, la_223, la_224, la_225, la_226, la_230, la_231, la_232, la_233, la_234, la_240, la_241, rc_100_0 hR, rc_100_1 hR, rc_100_2 hR, rc_100_3 hR, rc_100_4 hR, rc_100_5 hR, rc_100_6 hR, rc_100_7 hR, rc_100_8 hR, rc_100_9 hR, rc_100_10 hR, rc_100_11 hR, rc_100_12 hR, rc_100_13 hR, rc_100_14 hR, rc_100_15 hR, rc_111_1 hR, rc_113_1 hR, rc_113_2 hR, rc_113_3 hR, rc_110_0 hR, rc_110_1 hR, rc_110_5 hR, rc_121_1 hR, rc_123_1 hR, rc_123_2 hR, rc_123_3 hR, rc_120_0 hR, rc_120_1 hR, rc_120_5 hR, rc_131_1 hR, rc_133_1 hR, rc_133_2 hR, rc_133_3 hR, rc_130_0 hR, rc_130_1 hR, rc_130_5 hR, rc_141_1 hR, rc_143_1 hR, rc_143_2 hR, rc_143_3 hR, rc_140_0 hR, rc_140_1 hR, rc_140_5 hR, rc_150_3 hR, rc_150_4 hR, rc_150_5 hR, rc_150_6 hR, rc_160_0 hR, rc_173_1 hR, rc_170_0 hR, rc_170_1 hR, rc_181_0 hR, rc_185_1 hR, rc_180_0 hR, rc_180_1 hR, rc_180_2 hR, rc_192_1 hR, rc_194_1 hR, rc_190_0 hR, rc_201_1 hR, rc_200_0 hR, rc_214_1 hR, rc_211_0 hR, rc_211_1 hR, rc_216_1 hR, rc_221_1 hR, rc_221_2 hR, rc_221_3 hR, rc_225_1 hR, rc_210_0 hR, rc_210_1 hR, rc_210_2 hR, rc_210_3 hR, rc_210_4 hR, rc_231_1 hR, rc_233_1 hR, rc_230_0 hR, rc_230_1 hR, rc_240_1 hR, h1, gd_tt, oA_arr, px_obj_s, Option.bind_some, Option.map_some, Option.bind_none, eq_self, true_or, or_true, px_av_0, px_av_1, px_av_2, px_av_10, px_av_11, bn, wi_1, wi_2, wl_1, wl_21, wl_22, wr_1, wr_21, wr_22, Sum.elim_inl, Sum.elim_inr, ↓reduceIte, Nat.reduceLT, Nat.reduceLeDiff, not_false_eq_true, not_true_eq_false, Nat.reduceEqDiff, Nat.reduceAdd, reduceCtorEq, and_true, true_and, and_false, false_and, false_or, or_false, true_and, and_true, ni_divL, ni_subL, nI_add, pk_mul, nI_leI, nI_ltI, nI_eq, vp_in_eq, nI_clamp, ↓ni_tst, ni_tst2, fa_and, fa_or, ni_bit1, ni_1s, nI_l, mb_eq0, mb_ne0, mb_eq1, gd_tt, gd_t, bft]
          rw [if_pos (by omega)]
          by_cases hk : k = 1
          · subst hk; simp
          · have : k = 0 := by omega
            subst this; simp
      simp (disch := omega) only [f_12038, la_100, la_102, la_103, la_104, la_105, la_110, la_111, la_112, la_113, la_114, la_115, la_116, la_117, la_120, la_121, la_122, la_123, la_124, la_125, la_126, la_127, la_130, la_131, la_132, la_133, la_134, la_135, la_136, la_137, la_140, la_141, la_142, la_143, la_144, la_145, la_146, la_147, la_150, la_151, la_152, la_153, la_160, la_161, la_170, la_171, la_172, la_173, la_174, la_180, la_181, la_182, la_183, la_184, la_185, la_186, la_190, la_191, la_192, la_193, la_194, la_195, la_200, la_201, la_202, la_210, la_211, la_212, la_213, la_214, la_215, la_216, la_217, la_218, la_219, la_220, la_221, la_222, la_223, la_224, la_225, la_226, la_230, la_231, la_232, la_233, la_234, la_240, la_241, rc_100_0 hR, rc_100_1 hR, rc_100_2 hR, rc_100_3 hR, rc_100_4 hR, rc_100_5 hR, rc_100_6 hR, rc_100_7 hR, rc_100_8 hR, rc_100_9 hR, rc_100_10 hR, rc_100_11 hR, rc_100_12 hR, rc_100_13 hR, rc_100_14 hR, rc_100_15 hR, rc_111_1 hR, rc_113_1 hR, rc_113_2 hR, rc_113_3 hR, rc_110_0 hR, rc_110_1 hR, rc_110_5 hR, rc_121_1 hR, rc_123_1 hR, rc_123_2 hR, rc_123_3 hR, rc_120_0 hR, rc_120_1 hR, rc_120_5 hR, rc_131_1 hR, rc_133_1 hR, rc_133_2 hR, rc_133_3 hR, rc_130_0 hR, rc_130_1 hR, rc_130_5 hR, rc_141_1 hR, rc_143_1 hR, rc_143_2 hR, rc_143_3 hR, rc_140_0 hR, rc_140_1 hR, rc_140_5 hR, rc_150_3 hR, rc_150_4 hR, rc_150_5 hR, rc_150_6 hR, rc_160_0 hR, rc_173_1 hR, rc_170_0 hR, rc_170_1 hR, rc_181_0 hR, rc_185_1 hR, rc_180_0 hR, rc_180_1 hR, rc_180_2 hR, rc_192_1 hR, rc_194_1 hR, rc_190_0 hR, rc_201_1 hR, rc_200_0 hR, rc_214_1 hR, rc_211_0 hR, rc_211_1 hR, rc_216_1 hR, rc_221_1 hR, rc_221_2 hR, rc_221_3 hR, rc_225_1 hR, rc_210_0 hR, rc_210_1 hR, rc_210_2 hR, rc_210_3 hR, rc_210_4 hR, rc_231_1 hR, rc_233_1 hR, rc_230_0 hR, rc_230_1 hR, rc_240_1 hR, h1, outer, gd_tt, oA_arr, px_obj_s, Option.bind_some, Option.map_some, Option.bind_none, eq_self, true_or, or_true, px_av_0, px_av_1, px_av_2, px_av_10, px_av_11, bn, wi_1, wi_2, wl_1, wl_21, wl_22, wr_1, wr_21, wr_22, Sum.elim_inl, Sum.elim_inr, ↓reduceIte, Nat.reduceLT, Nat.reduceLeDiff, not_false_eq_true, not_true_eq_false, Nat.reduceEqDiff, Nat.reduceAdd, reduceCtorEq, and_true, true_and, and_false, false_and, false_or, or_false, true_and, and_true, ni_divL, ni_subL, nI_add, pk_mul, nI_leI, nI_ltI, nI_eq, vp_in_eq, nI_clamp, ↓ni_tst, ni_tst2, fa_and, fa_or, ni_bit1, ni_1s, nI_l, mb_eq0, mb_ne0, mb_eq1, gd_tt, gd_t, bft]
      rw [if_neg (by omega), if_pos (by omega)]
      by_cases h0 : n = 0
      · subst h0; simp [wo]
      · simp [h0]
    · have hm0 := mo_thr hm
      have hk := e_withinN (px_wi τ 0 0 (nI 0)) (nI k) (lo := 0) (hi := 1) (by omega) (by omega)
      rw [nI_toInt (by omega), decide_eq_true (by omega), mb_t1] at hk
      have hf0 : fr SM τ (px_wi τ 0 0 (nI 0)) := fr_thr (fr_rf _ _)
      obtain ⟨ρ, hρ⟩ : ∃ ρ, px_wi τ 0 0 (nI 0) = ρ := ⟨_, rfl⟩
      rw [hρ] at hm0 hk hf0
      have hmr : mo ρ n B := hm0
      have inner : ∀ a s υ, a < n → s.1 ≤ 99 → fr (on 15) ρ υ → (∀ h, h < 11 → υ.1 15 h = nI (ds n B a h)) → f_101_49 tT υ 0 (nI k) (nI a) (nI s.1) s.2 (nI (a + 1)) = some (.inl (nI (wi n B a s n).1, (wi n B a s n).2, nI (a + 1), υ)) := by
        intro a s υ ha hs99 hf q3
        obtain ⟨hR, -, e1, -⟩ := id (mo_on (by decide) hf hmr)
        unfold f_101_49
        have := lp_to (F := fun q : Int32 × Int32 × Int32 => F_101_49 tT υ 0 (nI k) (nI a) q.1 q.2.1 q.2.2) (I := fun j => (nI (wi n B a s (a + 1 + j)).1, (wi n B a s (a + 1 + j)).2, nI (a + 1 + j))) (b := .inl (nI (wi n B a s n).1, (wi n B a s n).2, nI (a + 1), υ)) (n - (a + 1)) (fun i hi => by
          have hl := wi_le (n := n) (B := B) (a := a) hs99 (a + 1 + i)
          have hd := ds_le (n := n) (B := B) a (a + 1 + i)
          have hai : a < a + 1 + i := by omega
          have hin : a + 1 + i < n := by omega
          rw [show a + 1 + (i + 1) = (a + 1 + i) + 1 by omega]
          generalize a + 1 + i = j at *
          simp only [wi, if_pos hai]
          generalize wi n B a s j = q at *
          simp (disch := omega) only [F_101_49, f_101_103, la_0, la_1, la_2, la_3, la_4, la_15, la_16, la_17, la_18, la_19, la_20, la_23, la_24, la_25, la_26, la_27, la_28, la_31, la_35, la_36, la_37, rm_0_1 hR, rm_0_2 hR, rm_0_3 hR, rm_0_4 hR, rm_0_15 hR, rm_0_16 hR, rm_0_17 hR, rm_0_18 hR, rm_0_19 hR, rm_0_20 hR, rm_0_23 hR, rm_0_24 hR, rm_0_25 hR, rm_0_26 hR, rm_0_27 hR, rm_0_28 hR, rm_0_31 hR, rm_0_35 hR, rm_0_36 hR, rm_0_37 hR, gd_tt, oA_arr, px_obj_s, Option.bind_some, Option.map_some, Option.bind_none, eq_self, true_or, or_true, px_av_0, px_av_1, px_av_2, px_av_10, px_av_11, bn, wi_1, wi_2, wl_1, wl_21, wl_22, wr_1, wr_21, wr_22, Sum.elim_inl, Sum.elim_inr, ↓reduceIte, Nat.reduceLT, Nat.reduceLeDiff, not_false_eq_true, not_true_eq_false, Nat.reduceEqDiff, Nat.reduceAdd, reduceCtorEq, and_true, true_and, and_false, false_and, false_or, or_false, true_and, and_true, ni_divL, ni_subL, nI_add, pk_mul, nI_leI, nI_ltI, nI_eq, vp_in_eq, nI_clamp, ↓ni_tst, ni_tst2, fa_and, fa_or, ni_bit1, ni_1s, nI_l, mb_eq0, mb_ne0, mb_eq1, gd_tt, gd_t, bft, e1, q3]
          rw [if_neg (by omega)]
          unfold w2
          by_cases h99 : ds n B a j = 99
          · rw [if_pos h99, if_neg (by omega)]
          · rw [if_neg h99]
            by_cases h3 : q.1 < ds n B a j
            · rw [if_pos h3, if_pos ⟨by omega, h3⟩]
            · rw [if_neg h3, if_neg (fun z => h3 z.2)]) (by
          rw [show a + 1 + (n - (a + 1)) = n by omega]
          simp (disch := omega) only [F_101_49, la_0, la_1, la_2, la_3, la_4, la_15, la_16, la_17, la_18, la_19, la_20, la_23, la_24, la_25, la_26, la_27, la_28, la_31, la_35, la_36, la_37, rm_0_1 hR, rm_0_2 hR, rm_0_3 hR, rm_0_4 hR, rm_0_15 hR, rm_0_16 hR, rm_0_17 hR, rm_0_18 hR, rm_0_19 hR, rm_0_20 hR, rm_0_23 hR, rm_0_24 hR, rm_0_25 hR, rm_0_26 hR, rm_0_27 hR, rm_0_28 hR, rm_0_31 hR, rm_0_35 hR, rm_0_36 hR, rm_0_37 hR, gd_tt, oA_arr, px_obj_s, Option.bind_some, Option.map_some, Option.bind_none, eq_self, true_or, or_true, px_av_0, px_av_1, px_av_2, px_av_10, px_av_11, bn, wi_1, wi_2, wl_1, wl_21, wl_22, wr_1, wr_21, wr_22, Sum.elim_inl, Sum.elim_inr, ↓reduceIte, Nat.reduceLT, Nat.reduceLeDiff, not_false_eq_true, not_true_eq_false, Nat.reduceEqDiff, Nat.reduceAdd, reduceCtorEq, and_true, true_and, and_false, false_and, false_or, or_false, true_and, and_true, ni_divL, ni_subL, nI_add, pk_mul, nI_leI, nI_ltI, nI_eq, vp_in_eq, nI_clamp, ↓ni_tst, ni_tst2, fa_and, fa_or, ni_bit1, ni_1s, nI_l, mb_eq0, mb_ne0, mb_eq1, gd_tt, gd_t, bft, e1]
          rw [if_pos (by omega)]) 0 (by omega)
        rw [Nat.add_zero, wi_lo a s (a + 1) (by omega)] at this
        exact this
      have outer : ∃ υ, f_101_25 tT 0 (nI k) (nI 0) (-1) (nI 0) ρ = some (if k = 1 ∨ n = 0 then (wo n B n).2 else nI (wo n B n).1, υ) ∧ fr (on 15) ρ υ := by
        unfold f_101_25
        obtain ⟨b, hb, υ, rfl, h2⟩ := lp_for (F := fun s : Int32 × Int32 × Int32 × px_M => F_101_25 tT 0 (nI k) s.1 s.2.1 s.2.2.1 s.2.2.2) (fun j s => s.1 = nI (wo n B j).1 ∧ s.2.1 = (wo n B j).2 ∧ s.2.2.1 = nI j ∧ fr (on 15) ρ s.2.2.2) (fun b => ∃ υ, b = (if k = 1 ∨ n = 0 then (wo n B n).2 else nI (wo n B n).1, υ) ∧ fr (on 15) ρ υ) n (fun j s hj hI => by
          obtain ⟨x, y, z, υ⟩ := s
          obtain ⟨hx, hy, hz, h1⟩ := hI
          dsimp only at hx hy hz h1
          subst hx hy hz
          have hl := wo_le (n := n) (B := B) j
          have hmu := mo_on (by decide) h1 hmr
          obtain ⟨hR, -, e1, -⟩ := id hmu
          obtain ⟨υ', q1, q2, q3⟩ := e_laysFar hmu hj
          refine ⟨(nI (wo n B (j + 1)).1, (wo n B (j + 1)).2, nI (j + 1), υ'), ?_, rfl, rfl, rfl, fr_tr h1 q2⟩
          simp (disch := omega) only [F_101_25, la_0, la_1, la_2, la_3, la_4, la_15, la_16, la_17, la_18, la_19, la_20, la_23, la_24, la_25, la_26, la_27, la_28, la_31, la_35, la_36, la_37, rm_0_1 hR, rm_0_2 hR, rm_0_3 hR, rm_0_4 hR, rm_0_15 hR, rm_0_16 hR, rm_0_17 hR, rm_0_18 hR, rm_0_19 hR, rm_0_20 hR, rm_0_23 hR, rm_0_24 hR, rm_0_25 hR, rm_0_26 hR, rm_0_27 hR, rm_0_28 hR, rm_0_31 hR, rm_0_35 hR, rm_0_36 hR, rm_0_37 hR, q1, gd_tt, oA_arr, px_obj_s, Option.bind_some, Option.map_some, Option.bind_none, eq_self, true_or, or_true, px_av_0, px_av_1, px_av_2, px_av_10, px_av_11, bn, wi_1, wi_2, wl_1, wl_21, wl_22, wr_1, wr_21, wr_22, Sum.elim_inl, Sum.elim_inr, ↓reduceIte, Nat.reduceLT, Nat.reduceLeDiff, not_false_eq_true, not_true_eq_false, Nat.reduceEqDiff, Nat.reduceAdd, reduceCtorEq, and_true, true_and, and_false, false_and, false_or, or_false, true_and, and_true, ni_divL, ni_subL, nI_add, pk_mul, nI_leI, nI_ltI, nI_eq, vp_in_eq, nI_clamp, ↓ni_tst, ni_tst2, fa_and, fa_or, ni_bit1, ni_1s, nI_l, mb_eq0, mb_ne0, mb_eq1, gd_tt, gd_t, bft, e1, inner]
          rw [if_neg (by omega), inner j _ υ' hj hl (fr_tr h1 q2) q3]
          rfl) (fun s hI => by
          obtain ⟨x, y, z, υ⟩ := s
          obtain ⟨hx, hy, hz, h1⟩ := hI
          dsimp only at hx hy hz h1
          subst hx hy hz
          obtain ⟨hR, -, e1, -⟩ := id (mo_on (by decide) h1 hmr)
          refine ⟨_, ?_, υ, rfl, h1⟩
          simp (disch := omega) only [F_101_25, la_0, la_1, la_2, la_3, la_4, la_15, la_16, la_17, la_18, la_19, la_20, la_23, la_24, la_25, la_26, la_27, la_28, la_31, la_35, la_36, la_37, rm_0_1 hR, rm_0_2 hR, rm_0_3 hR, rm_0_4 hR, rm_0_15 hR, rm_0_16 hR, rm_0_17 hR, rm_0_18 hR, rm_0_19 hR, rm_0_20 hR, rm_0_23 hR, rm_0_24 hR, rm_0_25 hR, rm_0_26 hR, rm_0_27 hR, rm_0_28 hR, rm_0_31 hR, rm_0_35 hR, rm_0_36 hR, rm_0_37 hR, gd_tt, oA_arr, px_obj_s, Option.bind_some, Option.map_some, Option.bind_none, eq_self, true_or, or_true, px_av_0, px_av_1, px_av_2, px_av_10, px_av_11, bn, wi_1, wi_2, wl_1, wl_21, wl_22, wr_1, wr_21, wr_22, Sum.elim_inl, Sum.elim_inr, ↓reduceIte, Nat.reduceLT, Nat.reduceLeDiff, not_false_eq_true, not_true_eq_false, Nat.reduceEqDiff, Nat.reduceAdd, reduceCtorEq, and_true, true_and, and_false, false_and, false_or, or_false, true_and, and_true, ni_divL, ni_subL, nI_add, pk_mul, nI_leI, nI_ltI, nI_eq, vp_in_eq, nI_clamp, ↓ni_tst, ni_tst2, fa_and, fa_or, ni_bit1, ni_1s, nI_l, mb_eq0, mb_ne0, mb_eq1, gd_tt, gd_t, bft, e1]
          rw [if_pos (by omega)]
          by_cases hk : k = 1
          · simp [hk]
          · by_cases h0 : n = 0
            · simp [hk, h0]
            · simp [hk, h0]) 0 (nI 0, -1, nI 0, ρ) (by omega) ⟨rfl, rfl, rfl, fr_rf _ _⟩
        exact ⟨υ, hb, h2⟩
      obtain ⟨υ, q1, q2⟩ := outer
      refine ⟨υ, ?_, ?_⟩
      · simp only [f_101, la_0, la_1, la_2, la_3, la_4, la_15, la_16, la_17, la_18, la_19, la_20, la_23, la_24, la_25, la_26, la_27, la_28, la_31, la_35, la_36, la_37, gd_tt, oA_arr, px_obj_s, Option.bind_some, Option.map_some, Option.bind_none, eq_self, true_or, or_true, px_av_0, px_av_1, px_av_2, px_av_10, px_av_11, bn, wi_1, wi_2, wl_1, wl_21, wl_22, wr_1, wr_21, wr_22, Sum.elim_inl, Sum.elim_inr, ↓reduceIte, Nat.reduceLT, Nat.reduceLeDiff, not_false_eq_true, not_true_eq_false, Nat.reduceEqDiff, Nat.reduceAdd, reduceCtorEq, and_true, true_and, and_false, false_and, false_or, or_false, hρ, hk, q1, n10]
      · exact fr_tr hf0 (fr_15 q2)
  · refine ⟨-2, ?_, fun τ hm => ⟨px_wi τ 0 0 (nI 0), ?_, fr_thr (fr_rf _ _)⟩⟩
    · simp only [f_12038]
      exact rg_no (by omega) (by omega) hno
    · have hk := e_withinN (px_wi τ 0 0 (nI 0)) v (lo := 0) (hi := 1) (by omega) (by omega)
      rw [decide_eq_false hno, mb_f0] at hk
      simp only [f_101, la_0, la_1, la_2, la_3, la_4, la_15, la_16, la_17, la_18, la_19, la_20, la_23, la_24, la_25, la_26, la_27, la_28, la_31, la_35, la_36, la_37, gd_tt, oA_arr, px_obj_s, Option.bind_some, Option.map_some, Option.bind_none, eq_self, true_or, or_true, px_av_0, px_av_1, px_av_2, px_av_10, px_av_11, bn, wi_1, wi_2, wl_1, wl_21, wl_22, wr_1, wr_21, wr_22, Sum.elim_inl, Sum.elim_inr, ↓reduceIte, Nat.reduceLT, Nat.reduceLeDiff, not_false_eq_true, not_true_eq_false, Nat.reduceEqDiff, Nat.reduceAdd, reduceCtorEq, and_true, true_and, and_false, false_and, false_or, or_false, hk, n10]
/-! rounds of four -/
theorem fp_fo (hw : wf n B) : sm (fun h => fo1 n B h) n = 2 * fp n B := by
  have h1 := sm_sym (f := fun a b => if b = a then 0 else c2 (bc 11 (B a &&& B b))) (fun a b => by
    by_cases h : a = b
    · simp [h]
    · simp [h, show ¬ b = a from fun q => h q.symm, Nat.and_comm]) (fun a => by simp) n
  have h2 : fp n B = sm (fun a => sm (fun b => if b = a then 0 else c2 (bc 11 (B a &&& B b))) a) n := by
    unfold fp
    rw [sm_up (fun a b => c2 (bc 11 (B a &&& B b)))]
    exact sm_congr (fun b _ => sm_congr (fun a ha => by rw [if_neg (by omega), Nat.and_comm]))
  rw [h2, ← h1]
  rfl
theorem e_fours9 (hm : mo σ n B) : f_81_9 tT σ 0 (nI 0) (nI 0) = some (nI (fp n B / 2), σ) := by
  obtain ⟨hR, hw, e1, hnb⟩ := id hm
  have hn := hw.1
  have hb : ∀ m, sm (fun h => fo1 n B h) m ≤ 605 * m := sm_le (fun j => by have := fo1_le (B := B) j n; unfold fo1; omega)
  have hs := fp_fo hw
  unfold f_81_9
  refine lp_to (I := fun j => (nI (sm (fun h => fo1 n B h) j), nI j)) n (fun i hi => ?_) ?_ 0 (by omega)
  · simp (disch := omega) only [F_81_9, f_81_27, la_0, la_1, la_2, la_3, la_4, la_15, la_16, la_17, la_18, la_19, la_20, la_23, la_24, la_25, la_26, la_27, la_28, la_31, la_35, la_36, la_37, rm_0_1 hR, rm_0_2 hR, rm_0_3 hR, rm_0_4 hR, rm_0_15 hR, rm_0_16 hR, rm_0_17 hR, rm_0_18 hR, rm_0_19 hR, rm_0_20 hR, rm_0_23 hR, rm_0_24 hR, rm_0_25 hR, rm_0_26 hR, rm_0_27 hR, rm_0_28 hR, rm_0_31 hR, rm_0_35 hR, rm_0_36 hR, rm_0_37 hR, gd_tt, oA_arr, px_obj_s, Option.bind_some, Option.map_some, Option.bind_none, eq_self, true_or, or_true, px_av_0, px_av_1, px_av_2, px_av_10, px_av_11, bn, wi_1, wi_2, wl_1, wl_21, wl_22, wr_1, wr_21, wr_22, Sum.elim_inl, Sum.elim_inr, ↓reduceIte, Nat.reduceLT, Nat.reduceLeDiff, not_false_eq_true, not_true_eq_false, Nat.reduceEqDiff, Nat.reduceAdd, reduceCtorEq, and_true, true_and, and_false, false_and, false_or, or_false, true_and, and_true, ni_divL, ni_subL, nI_add, pk_mul, nI_leI, nI_ltI, nI_eq, vp_in_eq, nI_clamp, ↓ni_tst, ni_tst2, fa_and, fa_or, ni_bit1, ni_1s, nI_l, mb_eq0, mb_ne0, mb_eq1, gd_tt, gd_t, bft, e1, e_foursOf hm]
    rw [if_neg (by omega)]; rfl
  · have := hb n
    simp (disch := omega) only [F_81_9, la_0, la_1, la_2, la_3, la_4, la_15, la_16, la_17, la_18, la_19, la_20, la_23, la_24, la_25, la_26, la_27, la_28, la_31, la_35, la_36, la_37, rm_0_1 hR, rm_0_2 hR, rm_0_3 hR, rm_0_4 hR, rm_0_15 hR, rm_0_16 hR, rm_0_17 hR, rm_0_18 hR, rm_0_19 hR, rm_0_20 hR, rm_0_23 hR, rm_0_24 hR, rm_0_25 hR, rm_0_26 hR, rm_0_27 hR, rm_0_28 hR, rm_0_31 hR, rm_0_35 hR, rm_0_36 hR, rm_0_37 hR, gd_tt, oA_arr, px_obj_s, Option.bind_some, Option.map_some, Option.bind_none, eq_self, true_or, or_true, px_av_0, px_av_1, px_av_2, px_av_10, px_av_11, bn, wi_1, wi_2, wl_1, wl_21, wl_22, wr_1, wr_21, wr_22, Sum.elim_inl, Sum.elim_inr, ↓reduceIte, Nat.reduceLT, Nat.reduceLeDiff, not_false_eq_true, not_true_eq_false, Nat.reduceEqDiff, Nat.reduceAdd, reduceCtorEq, and_true, true_and, and_false, false_and, false_or, or_false, true_and, and_true, ni_divL, ni_subL, nI_add, pk_mul, nI_leI, nI_ltI, nI_eq, vp_in_eq, nI_clamp, ↓ni_tst, ni_tst2, fa_and, fa_or, ni_bit1, ni_1s, nI_l, mb_eq0, mb_ne0, mb_eq1, gd_tt, gd_t, bft, e1]
    rw [if_pos (by omega), hs, show 2 * fp n B / 4 = fp n B / 2 by omega]
theorem e_fours (hm : mo σ n B) : ∃ υ, f_81 tT σ 0 = some (nI (fp n B / 2), υ) ∧ fr SM σ υ :=
  ⟨px_wi σ 0 0 (nI 0), by simp only [f_81, la_0, gd_tt, oA_arr, px_obj_s, Option.bind_some, Option.map_some, Option.bind_none, eq_self, true_or, or_true, px_av_0, px_av_1, px_av_2, px_av_10, px_av_11, bn, wi_1, wi_2, wl_1, wl_21, wl_22, wr_1, wr_21, wr_22, Sum.elim_inl, Sum.elim_inr, ↓reduceIte, Nat.reduceLT, Nat.reduceLeDiff, not_false_eq_true, not_true_eq_false, Nat.reduceEqDiff, Nat.reduceAdd, reduceCtorEq, and_true, true_and, and_false, false_and, false_or, or_false, e_fours9 (mo_thr hm)], fr_thr (fr_rf _ _)⟩
theorem a_fours (hc : cl σ n B) : agQ (f_12023 tT σ 100) (fun τ => f_81 tT τ 0) n B := by
  obtain ⟨hR, ht⟩ := hc
  refine ⟨nI (fp n B / 2), ?_, fun τ hm => e_fours hm⟩
  simp only [f_12023, la_100, la_102, la_103, la_104, la_105, la_110, la_111, la_112, la_113, la_114, la_115, la_116, la_117, la_120, la_121, la_122, la_123, la_124, la_125, la_126, la_127, la_130, la_131, la_132, la_133, la_134, la_135, la_136, la_137, la_140, la_141, la_142, la_143, la_144, la_145, la_146, la_147, la_150, la_151, la_152, la_153, la_160, la_161, la_170, la_171, la_172, la_173, la_174, la_180, la_181, la_182, la_183, la_184, la_185, la_186, la_190, la_191, la_192, la_193, la_194, la_195, la_200, la_201, la_202, la_210, la_211, la_212, la_213, la_214, la_215, la_216, la_217, la_218, la_219, la_220, la_221, la_222, la_223, la_224, la_225, la_226, la_230, la_231, la_232, la_233, la_234, la_240, la_241, rc_100_0 hR, rc_100_1 hR, rc_100_2 hR, rc_100_3 hR, rc_100_4 hR, rc_100_5 hR, rc_100_6 hR, rc_100_7 hR, rc_100_8 hR, rc_100_9 hR, rc_100_10 hR, rc_100_11 hR, rc_100_12 hR, rc_100_13 hR, rc_100_14 hR, rc_100_15 hR, rc_111_1 hR, rc_113_1 hR, rc_113_2 hR, rc_113_3 hR, rc_110_0 hR, rc_110_1 hR, rc_110_5 hR, rc_121_1 hR, rc_123_1 hR, rc_123_2 hR, rc_123_3 hR, rc_120_0 hR, rc_120_1 hR, rc_120_5 hR, rc_131_1 hR, rc_133_1 hR, rc_133_2 hR, rc_133_3 hR, rc_130_0 hR, rc_130_1 hR, rc_130_5 hR, rc_141_1 hR, rc_143_1 hR, rc_143_2 hR, rc_143_3 hR, rc_140_0 hR, rc_140_1 hR, rc_140_5 hR, rc_150_3 hR, rc_150_4 hR, rc_150_5 hR, rc_150_6 hR, rc_160_0 hR, rc_173_1 hR, rc_170_0 hR, rc_170_1 hR, rc_181_0 hR, rc_185_1 hR, rc_180_0 hR, rc_180_1 hR, rc_180_2 hR, rc_192_1 hR, rc_194_1 hR, rc_190_0 hR, rc_201_1 hR, rc_200_0 hR, rc_214_1 hR, rc_211_0 hR, rc_211_1 hR, rc_216_1 hR, rc_221_1 hR, rc_221_2 hR, rc_221_3 hR, rc_225_1 hR, rc_210_0 hR, rc_210_1 hR, rc_210_2 hR, rc_210_3 hR, rc_210_4 hR, rc_231_1 hR, rc_233_1 hR, rc_230_0 hR, rc_230_1 hR, rc_240_1 hR, gd_tt, oA_arr, px_obj_s, Option.bind_some, Option.map_some, Option.bind_none, eq_self, true_or, or_true, px_av_0, px_av_1, px_av_2, px_av_10, px_av_11, bn, wi_1, wi_2, wl_1, wl_21, wl_22, wr_1, wr_21, wr_22, Sum.elim_inl, Sum.elim_inr, ↓reduceIte, Nat.reduceLT, Nat.reduceLeDiff, not_false_eq_true, not_true_eq_false, Nat.reduceEqDiff, Nat.reduceAdd, reduceCtorEq, and_true, true_and, and_false, false_and, false_or, or_false, c_roundsOfFour ht]
/-! the smallest scandal -/
/-- by how many steps an odd walk first comes back -/
def lwv (n : Nat) (B : Nat → Nat) (h : Nat) : Option Nat := fo (fun i => if (i + 1) % 2 = 1 ∧ (fq B n h (i + 1)).1.testBit h = true then some (i + 1) else none) 22
theorem fo_cases {β : Type} (p : Nat → Option β) : ∀ n, (fo p n = none ∧ ∀ i, i < n → p i = none) ∨ ∃ i r, i < n ∧ p i = some r ∧ (∀ j, j < i → p j = none) ∧ fo p n = some r := by
  intro n
  induction n with
  | zero => exact Or.inl ⟨rfl, fun i hi => absurd hi (by omega)⟩
  | succ n ih =>
    rcases ih with ⟨h1, h2⟩ | ⟨i, r, h1, h2, h3, h4⟩
    · cases hp : p n with
      | none =>
        left
        refine ⟨by simp only [fo, h1]; exact hp, fun i hi => ?_⟩
        by_cases hin : i = n
        · subst hin; exact hp
        · exact h2 i (by omega)
      | some r => exact Or.inr ⟨n, r, by omega, hp, h2, by simp only [fo, h1]; exact hp⟩
    · exact Or.inr ⟨i, r, by omega, h2, h3, by simp only [fo, h4]⟩
theorem lwv_spec (hw : wf n B) {h : Nat} (hh : h < n) : (∃ L, lwv n B h = some L ∧ ob B n h L) ∨ (lwv n B h = none ∧ ∀ M, ¬ ob B n h M) := by
  have hp : ∀ i r, (if (i + 1) % 2 = 1 ∧ (fq B n h (i + 1)).1.testBit h = true then some (i + 1) else none) = some r → r = i + 1 ∧ (i + 1) % 2 = 1 ∧ (fq B n h (i + 1)).1.testBit h = true := by
    intro i r hi
    split at hi
    · rename_i hq
      cases hi
      exact ⟨rfl, hq⟩
    · cases hi
  rcases fo_cases (fun i => if (i + 1) % 2 = 1 ∧ (fq B n h (i + 1)).1.testBit h = true then some (i + 1) else none) 22 with ⟨h1, h2⟩ | ⟨i, r, h1, h2, h3, h4⟩
  · right
    refine ⟨h1, fun M hM => ?_⟩
    have h21 := ob_21 hw hh hM
    have hM1 := hM.1
    have := h2 (M - 1) (by omega)
    rw [show M - 1 + 1 = M by omega] at this
    rw [if_pos ⟨hM1, ((fq_spec hw hh M).2.2.2.1 h).mpr ⟨hM.2.1, fun j hj hjp => hM.2.2 j hj (by omega)⟩⟩] at this
    cases this
  · left
    obtain ⟨rfl, p1, p2⟩ := hp i r h2
    have := ((fq_spec hw hh (i + 1)).2.2.2.1 h).mp p2
    exact ⟨i + 1, h4, p1, this.1, fun j hj hjp => this.2 j hj (by omega)⟩
theorem c_oddWalk (hc : ct σ t n B) {h : Nat} (hh : h < n) : f_11030 tT σ t (nI h) = some (oI (lwv n B h)) := by
  have har := @c_around σ t n B hc
  obtain ⟨l1, l2, hr, hw, h1, hnb⟩ := hc
  have hn := hw.1
  have hltn : ∀ j, j < n → B j < 2048 := fun j _ => wf_2048 hw j
  have hg : oI (lwv n B h) = (fo (fun i => if (i + 1) % 2 = 1 ∧ (fq B n h (i + 1)).1.testBit h = true then some (nI (i + 1)) else none) 22).getD (-1) := by
    unfold lwv
    rcases fo_cases (fun i => if (i + 1) % 2 = 1 ∧ (fq B n h (i + 1)).1.testBit h = true then some (i + 1) else none) 22 with ⟨h1, h2⟩ | ⟨i, r, h1, h2, h3, h4⟩
    · rw [h1, fo_none (fun i hi => ?_)]
      · rfl
      · have := h2 i hi
        split
        · rename_i hq; rw [if_pos hq] at this; cases this
        · rfl
    · rw [h4, fo_some (i := i) (r := nI r) ?_ (fun j hj => ?_) h1]
      · rfl
      · try dsimp only at h2 ⊢
        split
        · rename_i hq; rw [if_pos hq] at h2; cases h2; rfl
        · rename_i hq; rw [if_neg hq] at h2; cases h2
      · have := h3 j hj
        try dsimp only at this ⊢
        split
        · rename_i hq; rw [if_pos hq] at this; cases this
        · rfl
  simp (disch := omega) only [f_11030, f_11030_4, gd_tt, oA_arr, px_obj_s, Option.bind_some, Option.map_some, Option.bind_none, eq_self, true_or, or_true, px_av_0, px_av_1, px_av_2, px_av_10, px_av_11, bn, wi_1, wi_2, wl_1, wl_21, wl_22, wr_1, wr_21, wr_22, Sum.elim_inl, Sum.elim_inr, ↓reduceIte, Nat.reduceLT, Nat.reduceLeDiff, not_false_eq_true, not_true_eq_false, Nat.reduceEqDiff, Nat.reduceAdd, reduceCtorEq, and_true, true_and, and_false, false_and, false_or, or_false, true_and, and_true, ni_divL, ni_subL, nI_add, pk_mul, nI_leI, nI_ltI, nI_eq, vp_in_eq, nI_clamp, ↓ni_tst, ni_tst2, fa_and, fa_or, ni_bit1, ni_1s, nI_l, mb_eq0, mb_ne0, mb_eq1, gd_tt, gd_t, bft]
  rw [hg]
  unfold f_11030_12
  refine lp_fo (I := fun j => (nI (fq B n h j).2.1, nI (fq B n h j).2.2, nI (fq B n h j).1, nI (j + 1))) (fun i => if (i + 1) % 2 = 1 ∧ (fq B n h (i + 1)).1.testBit h = true then some (nI (i + 1)) else none) (-1) 22 0 (fun i hi => absurd hi (by omega)) (fun i _ hi => ?_) ?_ (by omega)
  · obtain ⟨b1, b2, b3, -⟩ := fq_spec hw hh i
    obtain ⟨d1, -⟩ := fq_spec hw hh (i + 1)
    have hal : ar B n (fq B n h i).1 < 2048 := ar_lt hltn
    have e22 : ¬ 22 < i + 1 := by omega
    by_cases hp : (i + 1) % 2 = 1
    · have hf : fq B n h (i + 1) = (nd (ar B n (fq B n h i).1) (fq B n h i).2.2, (fq B n h i).2.1, (fq B n h i).2.2 ||| nd (ar B n (fq B n h i).1) (fq B n h i).2.2) := by simp only [fq, if_pos hp]
      rw [hf] at d1 ⊢
      dsimp only at d1 ⊢
      simp (disch := omega) only [F_11030_12, f_11030_55, l1, gd_tt, oA_arr, px_obj_s, Option.bind_some, Option.map_some, Option.bind_none, eq_self, true_or, or_true, px_av_0, px_av_1, px_av_2, px_av_10, px_av_11, bn, wi_1, wi_2, wl_1, wl_21, wl_22, wr_1, wr_21, wr_22, Sum.elim_inl, Sum.elim_inr, ↓reduceIte, Nat.reduceLT, Nat.reduceLeDiff, not_false_eq_true, not_true_eq_false, Nat.reduceEqDiff, Nat.reduceAdd, reduceCtorEq, and_true, true_and, and_false, false_and, false_or, or_false, true_and, and_true, ni_divL, ni_subL, nI_add, pk_mul, nI_leI, nI_ltI, nI_eq, vp_in_eq, nI_clamp, ↓ni_tst, ni_tst2, fa_and, fa_or, ni_bit1, ni_1s, nI_l, mb_eq0, mb_ne0, mb_eq1, gd_tt, gd_t, bft, har, ni_nd, ↓pk_rem, hp, e22]
      cases h3 : (nd (ar B n (fq B n h i).1) (fq B n h i).2.2).testBit h
      · simp
      · simp
    · have hf : fq B n h (i + 1) = (nd (ar B n (fq B n h i).1) (fq B n h i).2.1, (fq B n h i).2.1 ||| nd (ar B n (fq B n h i).1) (fq B n h i).2.1, (fq B n h i).2.2) := by simp only [fq, if_neg hp]
      have hp0 : (i + 1) % 2 = 0 := by omega
      rw [hf] at d1 ⊢
      dsimp only at d1 ⊢
      simp (disch := omega) only [F_11030_12, f_11030_55, l1, gd_tt, oA_arr, px_obj_s, Option.bind_some, Option.map_some, Option.bind_none, eq_self, true_or, or_true, px_av_0, px_av_1, px_av_2, px_av_10, px_av_11, bn, wi_1, wi_2, wl_1, wl_21, wl_22, wr_1, wr_21, wr_22, Sum.elim_inl, Sum.elim_inr, ↓reduceIte, Nat.reduceLT, Nat.reduceLeDiff, not_false_eq_true, not_true_eq_false, Nat.reduceEqDiff, Nat.reduceAdd, reduceCtorEq, and_true, true_and, and_false, false_and, false_or, or_false, true_and, and_true, ni_divL, ni_subL, nI_add, pk_mul, nI_leI, nI_ltI, nI_eq, vp_in_eq, nI_clamp, ↓ni_tst, ni_tst2, fa_and, fa_or, ni_bit1, ni_1s, nI_l, mb_eq0, mb_ne0, mb_eq1, gd_tt, gd_t, bft, har, ni_nd, ↓pk_rem, hp0, e22]
  · simp (disch := omega) only [F_11030_12, gd_tt, oA_arr, px_obj_s, Option.bind_some, Option.map_some, Option.bind_none, eq_self, true_or, or_true, px_av_0, px_av_1, px_av_2, px_av_10, px_av_11, bn, wi_1, wi_2, wl_1, wl_21, wl_22, wr_1, wr_21, wr_22, Sum.elim_inl, Sum.elim_inr, ↓reduceIte, Nat.reduceLT, Nat.reduceLeDiff, not_false_eq_true, not_true_eq_false, Nat.reduceEqDiff, Nat.reduceAdd, reduceCtorEq, and_true, true_and, and_false, false_and, false_or, or_false, true_and, and_true, ni_divL, ni_subL, nI_add, pk_mul, nI_leI, nI_ltI, nI_eq, vp_in_eq, nI_clamp, ↓ni_tst, ni_tst2, fa_and, fa_or, ni_bit1, ni_1s, nI_l, mb_eq0, mb_ne0, mb_eq1, gd_tt, gd_t, bft]
/-- the least over all houses -/
def mno (f : Nat → Option Nat) : Nat → Option Nat
  | 0 => none
  | h + 1 => match f h with
    | none => mno f h
    | some L => match mno f h with
      | none => some L
      | some M => if M ≤ L then some M else some L
def rgm (n : Nat) (B : Nat → Nat) (m : Nat) : Option Nat := mno (lwv n B) m
theorem lwv_lt {h L : Nat} (hl : lwv n B h = some L) : L ≤ 22 := by
  rcases fo_cases (fun i => if (i + 1) % 2 = 1 ∧ (fq B n h (i + 1)).1.testBit h = true then some (i + 1) else none) 22 with ⟨h1, -⟩ | ⟨i, r, h1, h2, -, h4⟩
  · rw [show lwv n B h = none from h1] at hl; cases hl
  · rw [show lwv n B h = some r from h4] at hl
    cases hl
    try dsimp only at h2
    split at h2
    · cases h2; omega
    · cases h2
theorem mno_lt {f : Nat → Option Nat} {K : Nat} (hf : ∀ h L, f h = some L → L ≤ K) : ∀ {h L : Nat}, mno f h = some L → L ≤ K := by
  intro h
  induction h with
  | zero => intro L hl; cases hl
  | succ h ih =>
    intro L hl
    simp only [mno] at hl
    cases h1 : f h with
    | none => rw [h1] at hl; exact ih hl
    | some K =>
      rw [h1] at hl
      have hK := hf h K h1
      cases h2 : mno f h with
      | none => rw [h2] at hl; cases hl; exact hK
      | some M =>
        rw [h2] at hl
        dsimp only at hl
        split at hl
        · cases hl; exact ih h2
        · cases hl; exact hK
theorem mno_spec {f : Nat → Option Nat} {O : Nat → Nat → Prop} (hu : ∀ h L M, O h L → O h M → L = M) {n : Nat} (hf : ∀ h, h < n → (∃ L, f h = some L ∧ O h L) ∨ (f h = none ∧ ∀ M, ¬ O h M)) : ∀ m, m ≤ n → (∃ L, mno f m = some L ∧ (∃ h, h < m ∧ O h L) ∧ ∀ h, h < m → ∀ M, O h M → L ≤ M) ∨ (mno f m = none ∧ ∀ h, h < m → ∀ M, ¬ O h M) := by
  intro m
  induction m with
  | zero => intro _; exact Or.inr ⟨rfl, fun h hh => absurd hh (by omega)⟩
  | succ m ih =>
    intro hm
    have ih := ih (by omega)
    simp only [mno]
    rcases hf m (by omega) with ⟨L, h1, h2⟩ | ⟨h1, h2⟩
    · rw [h1]
      left
      rcases ih with ⟨M, k1, ⟨g, k2, k3⟩, k4⟩ | ⟨k1, k2⟩
      · rw [k1]
        dsimp only
        by_cases hML : M ≤ L
        · rw [if_pos hML]
          refine ⟨M, rfl, ⟨g, by omega, k3⟩, fun h hh K hK => ?_⟩
          by_cases hhm : h = m
          · subst hhm; rw [hu h K L hK h2]; exact hML
          · exact k4 h (by omega) K hK
        · rw [if_neg hML]
          refine ⟨L, rfl, ⟨m, by omega, h2⟩, fun h hh K hK => ?_⟩
          by_cases hhm : h = m
          · subst hhm; rw [hu h K L hK h2]; exact Nat.le_refl _
          · have := k4 h (by omega) K hK; omega
      · rw [k1]
        refine ⟨L, rfl, ⟨m, by omega, h2⟩, fun h hh K hK => ?_⟩
        by_cases hhm : h = m
        · subst hhm; rw [hu h K L hK h2]; exact Nat.le_refl _
        · exact absurd hK (k2 h (by omega) K)
    · rw [h1]
      rcases ih with ⟨M, k1, ⟨g, k2, k3⟩, k4⟩ | ⟨k1, k2⟩
      · left
        refine ⟨M, k1, ⟨g, by omega, k3⟩, fun h hh K hK => ?_⟩
        by_cases hhm : h = m
        · subst hhm; exact absurd hK (h2 K)
        · exact k4 h (by omega) K hK
      · right
        refine ⟨k1, fun h hh K hK => ?_⟩
        by_cases hhm : h = m
        · subst hhm; exact h2 K hK
        · exact k2 h (by omega) K hK
theorem rgm_spec (hw : wf n B) : (∃ L, rgm n B n = some L ∧ (∃ h, h < n ∧ ob B n h L) ∧ ∀ h, h < n → ∀ M, ob B n h M → L ≤ M) ∨ (rgm n B n = none ∧ ∀ h, h < n → ∀ M, ¬ ob B n h M) := mno_spec (O := ob B n) (fun h L M h1 h2 => ob_uniq h1 h2) (fun h hh => lwv_spec hw hh) n (Nat.le_refl _)
theorem c_oddRing (hc : ct σ t n B) : f_11029 tT σ t = some (oI (rgm n B n)) := by
  have hwk := @c_oddWalk σ t n B hc
  have hlt := @lwv_lt n B
  obtain ⟨l1, l2, hr, hw, h1, hnb⟩ := hc
  have hn := hw.1
  unfold rgm
  generalize lwv n B = f at *
  unfold f_11029 f_11029_4
  refine lp_to (I := fun j => (oI (mno f j), nI j)) n (fun i hi => ?_) ?_ 0 (by omega)
  · simp (disch := omega) only [F_11029_4, f_11029_33, f_11029_35, l1, h1, gd_tt, oA_arr, px_obj_s, Option.bind_some, Option.map_some, Option.bind_none, eq_self, true_or, or_true, px_av_0, px_av_1, px_av_2, px_av_10, px_av_11, bn, wi_1, wi_2, wl_1, wl_21, wl_22, wr_1, wr_21, wr_22, Sum.elim_inl, Sum.elim_inr, ↓reduceIte, Nat.reduceLT, Nat.reduceLeDiff, not_false_eq_true, not_true_eq_false, Nat.reduceEqDiff, Nat.reduceAdd, reduceCtorEq, and_true, true_and, and_false, false_and, false_or, or_false, true_and, and_true, ni_divL, ni_subL, nI_add, pk_mul, nI_leI, nI_ltI, nI_eq, vp_in_eq, nI_clamp, ↓ni_tst, ni_tst2, fa_and, fa_or, ni_bit1, ni_1s, nI_l, mb_eq0, mb_ne0, mb_eq1, gd_tt, gd_t, bft, hwk]
    rw [if_neg (by omega)]
    simp only [mno]
    cases h2 : f i with
    | none => simp [oI]
    | some L =>
      have hL := hlt h2
      simp only [oI, nI_m1 (b := L) (by omega), ↓reduceIte]
      cases h3 : mno f i with
      | none => simp
      | some M =>
        have hM := mno_lt (fun h L => @hlt h L) h3
        simp only [nI_m1 (b := M) (by omega), ↓reduceIte]
        by_cases h4 : M ≤ L
        · have h5 : nI M ≤ nI L := by rw [nI_leI (by omega) (by omega)]; exact h4
          simp only [h5, h4, ↓reduceIte]
        · have h5 : ¬ nI M ≤ nI L := by rw [nI_leI (by omega) (by omega)]; exact h4
          simp only [h5, h4, ↓reduceIte]
  · simp (disch := omega) only [F_11029_4, l1, h1, gd_tt, oA_arr, px_obj_s, Option.bind_some, Option.map_some, Option.bind_none, eq_self, true_or, or_true, px_av_0, px_av_1, px_av_2, px_av_10, px_av_11, bn, wi_1, wi_2, wl_1, wl_21, wl_22, wr_1, wr_21, wr_22, Sum.elim_inl, Sum.elim_inr, ↓reduceIte, Nat.reduceLT, Nat.reduceLeDiff, not_false_eq_true, not_true_eq_false, Nat.reduceEqDiff, Nat.reduceAdd, reduceCtorEq, and_true, true_and, and_false, false_and, false_or, or_false, true_and, and_true, ni_divL, ni_subL, nI_add, pk_mul, nI_leI, nI_ltI, nI_eq, vp_in_eq, nI_clamp, ↓ni_tst, ni_tst2, fa_and, fa_or, ni_bit1, ni_1s, nI_l, mb_eq0, mb_ne0, mb_eq1, gd_tt, gd_t, bft]
    rw [if_pos (by omega)]
/-! the model's way: edges whose ends are equally far -/
def gdp (n : Nat) (B : Nat → Nat) (h a b : Nat) : Prop := ds n B h a < 99 ∧ ds n B h a = ds n B h b ∧ (B a).testBit b = true
def su (n : Nat) (B : Nat → Nat) (h a b L : Nat) : Nat := if ds n B h a < 99 ∧ ds n B h a = ds n B h b ∧ (B a).testBit b = true ∧ 2 * ds n B h a + 1 < L then 2 * ds n B h a + 1 else L
def si (n : Nat) (B : Nat → Nat) (h a L : Nat) : Nat → Nat
  | 0 => L
  | b + 1 => su n B h a b (si n B h a L b)
def sj (n : Nat) (B : Nat → Nat) (h L : Nat) : Nat → Nat
  | 0 => L
  | a + 1 => si n B h a (sj n B h L a) a
def sk (n : Nat) (B : Nat → Nat) : Nat → Nat
  | 0 => 99
  | h + 1 => sj n B h (sk n B h) n
/-- L is the least among pairs of which P says so -/
def Lq (n : Nat) (B : Nat → Nat) (P : Nat → Nat → Nat → Prop) (L : Nat) : Prop := L ≤ 99 ∧ (L = 99 ∨ ∃ h a b, P h a b ∧ gdp n B h a b ∧ L = 2 * ds n B h a + 1) ∧ ∀ h a b, P h a b → gdp n B h a b → L ≤ 2 * ds n B h a + 1
theorem Lq_up {P : Nat → Nat → Nat → Prop} {L h a b : Nat} (hL : Lq n B P L) (hd : ds n B h a ≤ 10 ∨ ds n B h a = 99) : Lq n B (fun x y z => P x y z ∨ (x = h ∧ y = a ∧ z = b)) (su n B h a b L) := by
  obtain ⟨h1, h2, h3⟩ := hL
  unfold su
  by_cases hq : ds n B h a < 99 ∧ ds n B h a = ds n B h b ∧ (B a).testBit b = true ∧ 2 * ds n B h a + 1 < L
  · rw [if_pos hq]
    refine ⟨by omega, Or.inr ⟨h, a, b, Or.inr ⟨rfl, rfl, rfl⟩, ⟨hq.1, hq.2.1, hq.2.2.1⟩, rfl⟩, ?_⟩
    rintro x y z (hp | ⟨rfl, rfl, rfl⟩) hg
    · have := h3 x y z hp hg; omega
    · exact Nat.le_refl _
  · rw [if_neg hq]
    refine ⟨h1, ?_, ?_⟩
    · rcases h2 with h2 | ⟨x, y, z, q1, q2, q3⟩
      · exact Or.inl h2
      · exact Or.inr ⟨x, y, z, Or.inl q1, q2, q3⟩
    · rintro x y z (hp | ⟨rfl, rfl, rfl⟩) hg
      · exact h3 x y z hp hg
      · rcases Nat.lt_or_ge (2 * ds n B x y + 1) L with q | q
        · exact absurd ⟨hg.1, hg.2.1, hg.2.2, q⟩ hq
        · exact q
theorem Lq_iff {P Q : Nat → Nat → Nat → Prop} {L : Nat} (hPQ : ∀ x y z, P x y z ↔ Q x y z) (h : Lq n B P L) : Lq n B Q L := by
  have : P = Q := funext fun x => funext fun y => funext fun z => propext (hPQ x y z)
  rw [← this]; exact h
theorem si_q (hw : wf n B) {P : Nat → Nat → Nat → Prop} {h a L : Nat} (hh : h < n) (hL : Lq n B P L) : ∀ b, Lq n B (fun x y z => P x y z ∨ (x = h ∧ y = a ∧ z < b)) (si n B h a L b) := by
  intro b
  induction b with
  | zero => exact Lq_iff (fun x y z => ⟨Or.inl, fun q => by rcases q with q | q; exact q; omega⟩) hL
  | succ b ih =>
    refine Lq_iff (fun x y z => ?_) (Lq_up (b := b) ih (ds_10 hw hh a))
    constructor
    · rintro ((q | q) | q)
      · exact Or.inl q
      · exact Or.inr (by omega)
      · exact Or.inr (by omega)
    · rintro (q | q)
      · exact Or.inl (Or.inl q)
      · by_cases hz : z = b
        · exact Or.inr ⟨q.1, q.2.1, hz⟩
        · exact Or.inl (Or.inr (by omega))
theorem sj_q (hw : wf n B) {P : Nat → Nat → Nat → Prop} {h L : Nat} (hh : h < n) (hL : Lq n B P L) : ∀ a, Lq n B (fun x y z => P x y z ∨ (x = h ∧ y < a ∧ z < y)) (sj n B h L a) := by
  intro a
  induction a with
  | zero => exact Lq_iff (fun x y z => ⟨Or.inl, fun q => by rcases q with q | q; exact q; omega⟩) hL
  | succ a ih =>
    refine Lq_iff (fun x y z => ?_) (si_q hw hh ih a)
    constructor
    · rintro ((q | q) | q)
      · exact Or.inl q
      · exact Or.inr (by omega)
      · exact Or.inr (by omega)
    · rintro (q | q)
      · exact Or.inl (Or.inl q)
      · by_cases hz : y = a
        · exact Or.inr (by omega)
        · exact Or.inl (Or.inr (by omega))
theorem sk_q (hw : wf n B) : ∀ h, h ≤ n → Lq n B (fun x y z => x < h ∧ y < n ∧ z < y) (sk n B h) := by
  intro h
  induction h with
  | zero => intro _; exact ⟨Nat.le_refl _, Or.inl rfl, fun x y z q => absurd q.1 (by omega)⟩
  | succ h ih =>
    intro hh
    refine Lq_iff (fun x y z => ?_) (sj_q hw (show h < n by omega) (ih (by omega)) n)
    constructor
    · rintro (q | q) <;> omega
    · intro q
      by_cases hx : x = h
      · exact Or.inr (by omega)
      · exact Or.inl (by omega)
theorem sk_rg (hw : wf n B) : (if sk n B n = 99 then (-1 : Int32) else nI (sk n B n)) = oI (rgm n B n) := by
  obtain ⟨k1, k2, k3⟩ := sk_q hw n (Nat.le_refl _)
  have hedge : ∀ h, h < n → ∀ x y d, (B x).testBit y = true → (ly B n h d).testBit x = true → (ly B n h d).testBit y = true → sk n B n ≤ 2 * d + 1 := by
    intro h hh x y d hxy hx hy
    obtain ⟨d', -, d10, hd'⟩ := ly_ex hw hh ((ly_wk hw hh d x).mp hx).1
    have hdd := ly_uniq hw hh hx hd'
    have ex := (ds_eq hw hh x (i := d) (by omega)).mpr hx
    have ey := (ds_eq hw hh y (i := d) (by omega)).mpr hy
    have hxn := wf_l hw hxy
    have hyn := wf_r hw hxy
    rcases Nat.lt_or_ge y x with q | q
    · have := k3 h x y ⟨hh, hxn, q⟩ ⟨by omega, by omega, hxy⟩
      omega
    · have hne := wf_ne hw hxy
      have := k3 h y x ⟨hh, hyn, by omega⟩ ⟨by omega, by omega, wf_s hw hxy⟩
      omega
  have hob : ∀ h, h < n → ∀ M, ob B n h M → sk n B n ≤ M := by
    intro h hh M hM
    obtain ⟨x, y, d, h1, h2, h3, h4⟩ := odd_edge hw hh hM.1 hM.2.1
    have := hedge h hh x y d h1 h2 h3
    omega
  rcases rgm_spec hw with ⟨L, r1, ⟨h, r2, r3⟩, r4⟩ | ⟨r1, r2⟩
  · have h21 := ob_21 hw r2 r3
    have hle := hob h r2 L r3
    have hne : ¬ sk n B n = 99 := by omega
    rw [if_neg hne, r1]
    rcases k2 with k2 | ⟨g, a, b, ⟨g1, g2, g3⟩, ⟨g4, g5, g6⟩, g7⟩
    · exact absurd k2 hne
    · have hx := (ds_eq hw g1 a (i := ds n B g a) g4).mp rfl
      have hy := (ds_eq hw g1 b (i := ds n B g a) g4).mp g5.symm
      have hO := ob_edge hw g1 g6 hx hy (fun x' y' d' q1 q2 q3 => by
        have := hedge g g1 x' y' d' q1 q2 q3
        omega)
      have := r4 g g1 _ hO
      have : sk n B n = L := by omega
      rw [this]; rfl
  · rw [r1]
    rcases k2 with k2 | ⟨g, a, b, ⟨g1, g2, g3⟩, ⟨g4, g5, g6⟩, g7⟩
    · rw [if_pos k2]; rfl
    · exfalso
      have hx := (ds_eq hw g1 a (i := ds n B g a) g4).mp rfl
      have hy := (ds_eq hw g1 b (i := ds n B g a) g4).mp g5.symm
      exact r2 g g1 _ (ob_edge hw g1 g6 hx hy (fun x' y' d' q1 q2 q3 => by
        have := hedge g g1 x' y' d' q1 q2 q3
        omega))
theorem su_le {h a b L : Nat} (hL : L ≤ 99) : su n B h a b L ≤ 99 := by
  unfold su
  split <;> omega
theorem si_le {h a L : Nat} (hL : L ≤ 99) : ∀ b, si n B h a L b ≤ 99 := by
  intro b
  induction b with
  | zero => exact hL
  | succ b ih => exact su_le ih
theorem sj_le {h L : Nat} (hL : L ≤ 99) : ∀ a, sj n B h L a ≤ 99 := by
  intro a
  induction a with
  | zero => exact hL
  | succ a ih => exact si_le ih a
theorem sk_le : ∀ h, sk n B h ≤ 99 := by
  intro h
  induction h with
  | zero => exact Nat.le_refl _
  | succ h ih => exact sj_le ih n
theorem e_scandal (hm : mo σ n B) : ∃ υ, f_82_10 tT 0 (nI 99) (nI 0) σ = some (oI (rgm n B n), υ) ∧ fr (on 15) σ υ := by
  obtain ⟨-, hw, -, -⟩ := id hm
  have hn := hw.1
  have inner : ∀ h a L υ, h < n → a < n → L ≤ 99 → fr (on 15) σ υ → (∀ x, x < 11 → υ.1 15 x = nI (ds n B h x)) → f_82_41 tT υ 0 (nI h) (nI a) (nI L) (nI 0) = some (.inl (nI (si n B h a L a), nI (a + 1))) := by
    intro h a L υ hh ha hL hf q3
    have hmu := mo_on (by decide) hf hm
    obtain ⟨hR, -, e1, -⟩ := id hmu
    have hBa := wf_2048 hw a
    unfold f_82_41
    refine lp_to (I := fun j => (nI (si n B h a L j), nI j)) a (fun i hi => ?_) ?_ 0 (by omega)
    · have hl := si_le (n := n) (B := B) (h := h) (a := a) hL i
      have d1 := ds_le (n := n) (B := B) h a
      have d2 := ds_le (n := n) (B := B) h i
      simp only [si]
      generalize si n B h a L i = K at *
      simp (disch := omega) only [F_82_41, f_82_74, f_82_88, f_82_113, la_0, la_1, la_2, la_3, la_4, la_15, la_16, la_17, la_18, la_19, la_20, la_23, la_24, la_25, la_26, la_27, la_28, la_31, la_35, la_36, la_37, rm_0_1 hR, rm_0_2 hR, rm_0_3 hR, rm_0_4 hR, rm_0_15 hR, rm_0_16 hR, rm_0_17 hR, rm_0_18 hR, rm_0_19 hR, rm_0_20 hR, rm_0_23 hR, rm_0_24 hR, rm_0_25 hR, rm_0_26 hR, rm_0_27 hR, rm_0_28 hR, rm_0_31 hR, rm_0_35 hR, rm_0_36 hR, rm_0_37 hR, gd_tt, oA_arr, px_obj_s, Option.bind_some, Option.map_some, Option.bind_none, eq_self, true_or, or_true, px_av_0, px_av_1, px_av_2, px_av_10, px_av_11, bn, wi_1, wi_2, wl_1, wl_21, wl_22, wr_1, wr_21, wr_22, Sum.elim_inl, Sum.elim_inr, ↓reduceIte, Nat.reduceLT, Nat.reduceLeDiff, not_false_eq_true, not_true_eq_false, Nat.reduceEqDiff, Nat.reduceAdd, reduceCtorEq, and_true, true_and, and_false, false_and, false_or, or_false, true_and, and_true, ni_divL, ni_subL, nI_add, pk_mul, nI_leI, nI_ltI, nI_eq, vp_in_eq, nI_clamp, ↓ni_tst, ni_tst2, fa_and, fa_or, ni_bit1, ni_1s, nI_l, mb_eq0, mb_ne0, mb_eq1, gd_tt, gd_t, bft, e1, q3, e_near hmu, e_isIn]
      rw [if_neg (by omega)]
      unfold su
      by_cases h99 : 99 ≤ ds n B h a
      · rw [if_pos h99, if_neg (by omega)]
      · rw [if_neg h99]
        by_cases heq : ds n B h a = ds n B h i
        · rw [if_pos heq]
          cases hb : (B a).testBit i
          · simp
          · by_cases hK : K ≤ 2 * ds n B h a + 1
            · simp [hK, show ¬ 2 * ds n B h a + 1 < K by omega]
            · have hlt : 2 * ds n B h a + 1 < K := by omega
              simp only [Bool.true_eq_false, ↓reduceIte, true_and]
              rw [if_neg hK, if_pos ⟨by omega, heq, hlt⟩]
        · rw [if_neg heq, if_neg (fun q => heq q.2.1)]
    · simp (disch := omega) only [F_82_41, la_0, la_1, la_2, la_3, la_4, la_15, la_16, la_17, la_18, la_19, la_20, la_23, la_24, la_25, la_26, la_27, la_28, la_31, la_35, la_36, la_37, rm_0_1 hR, rm_0_2 hR, rm_0_3 hR, rm_0_4 hR, rm_0_15 hR, rm_0_16 hR, rm_0_17 hR, rm_0_18 hR, rm_0_19 hR, rm_0_20 hR, rm_0_23 hR, rm_0_24 hR, rm_0_25 hR, rm_0_26 hR, rm_0_27 hR, rm_0_28 hR, rm_0_31 hR, rm_0_35 hR, rm_0_36 hR, rm_0_37 hR, gd_tt, oA_arr, px_obj_s, Option.bind_some, Option.map_some, Option.bind_none, eq_self, true_or, or_true, px_av_0, px_av_1, px_av_2, px_av_10, px_av_11, bn, wi_1, wi_2, wl_1, wl_21, wl_22, wr_1, wr_21, wr_22, Sum.elim_inl, Sum.elim_inr, ↓reduceIte, Nat.reduceLT, Nat.reduceLeDiff, not_false_eq_true, not_true_eq_false, Nat.reduceEqDiff, Nat.reduceAdd, reduceCtorEq, and_true, true_and, and_false, false_and, false_or, or_false, true_and, and_true, ni_divL, ni_subL, nI_add, pk_mul, nI_leI, nI_ltI, nI_eq, vp_in_eq, nI_clamp, ↓ni_tst, ni_tst2, fa_and, fa_or, ni_bit1, ni_1s, nI_l, mb_eq0, mb_ne0, mb_eq1, gd_tt, gd_t, bft, e1]
      rw [if_pos (by omega)]
  have middle : ∀ h L υ, h < n → L ≤ 99 → fr (on 15) σ υ → (∀ x, x < 11 → υ.1 15 x = nI (ds n B h x)) → f_82_28 tT υ 0 (nI h) (nI L) (nI 0) = some (.inl (nI (sj n B h L n), nI (h + 1), υ)) := by
    intro h L υ hh hL hf q3
    obtain ⟨hR, -, e1, -⟩ := id (mo_on (by decide) hf hm)
    unfold f_82_28
    refine lp_to (I := fun j => (nI (sj n B h L j), nI j)) n (fun i hi => ?_) ?_ 0 (by omega)
    · have hl := sj_le (n := n) (B := B) (h := h) hL i
      simp (disch := omega) only [F_82_28, la_0, la_1, la_2, la_3, la_4, la_15, la_16, la_17, la_18, la_19, la_20, la_23, la_24, la_25, la_26, la_27, la_28, la_31, la_35, la_36, la_37, rm_0_1 hR, rm_0_2 hR, rm_0_3 hR, rm_0_4 hR, rm_0_15 hR, rm_0_16 hR, rm_0_17 hR, rm_0_18 hR, rm_0_19 hR, rm_0_20 hR, rm_0_23 hR, rm_0_24 hR, rm_0_25 hR, rm_0_26 hR, rm_0_27 hR, rm_0_28 hR, rm_0_31 hR, rm_0_35 hR, rm_0_36 hR, rm_0_37 hR, gd_tt, oA_arr, px_obj_s, Option.bind_some, Option.map_some, Option.bind_none, eq_self, true_or, or_true, px_av_0, px_av_1, px_av_2, px_av_10, px_av_11, bn, wi_1, wi_2, wl_1, wl_21, wl_22, wr_1, wr_21, wr_22, Sum.elim_inl, Sum.elim_inr, ↓reduceIte, Nat.reduceLT, Nat.reduceLeDiff, not_false_eq_true, not_true_eq_false, Nat.reduceEqDiff, Nat.reduceAdd, reduceCtorEq, and_true, true_and, and_false, false_and, false_or, or_false, true_and, and_true, ni_divL, ni_subL, nI_add, pk_mul, nI_leI, nI_ltI, nI_eq, vp_in_eq, nI_clamp, ↓ni_tst, ni_tst2, fa_and, fa_or, ni_bit1, ni_1s, nI_l, mb_eq0, mb_ne0, mb_eq1, gd_tt, gd_t, bft, e1]
      rw [if_neg (by omega), inner h i _ υ hh hi hl hf q3]
      rfl
    · simp (disch := omega) only [F_82_28, la_0, la_1, la_2, la_3, la_4, la_15, la_16, la_17, la_18, la_19, la_20, la_23, la_24, la_25, la_26, la_27, la_28, la_31, la_35, la_36, la_37, rm_0_1 hR, rm_0_2 hR, rm_0_3 hR, rm_0_4 hR, rm_0_15 hR, rm_0_16 hR, rm_0_17 hR, rm_0_18 hR, rm_0_19 hR, rm_0_20 hR, rm_0_23 hR, rm_0_24 hR, rm_0_25 hR, rm_0_26 hR, rm_0_27 hR, rm_0_28 hR, rm_0_31 hR, rm_0_35 hR, rm_0_36 hR, rm_0_37 hR, gd_tt, oA_arr, px_obj_s, Option.bind_some, Option.map_some, Option.bind_none, eq_self, true_or, or_true, px_av_0, px_av_1, px_av_2, px_av_10, px_av_11, bn, wi_1, wi_2, wl_1, wl_21, wl_22, wr_1, wr_21, wr_22, Sum.elim_inl, Sum.elim_inr, ↓reduceIte, Nat.reduceLT, Nat.reduceLeDiff, not_false_eq_true, not_true_eq_false, Nat.reduceEqDiff, Nat.reduceAdd, reduceCtorEq, and_true, true_and, and_false, false_and, false_or, or_false, true_and, and_true, ni_divL, ni_subL, nI_add, pk_mul, nI_leI, nI_ltI, nI_eq, vp_in_eq, nI_clamp, ↓ni_tst, ni_tst2, fa_and, fa_or, ni_bit1, ni_1s, nI_l, mb_eq0, mb_ne0, mb_eq1, gd_tt, gd_t, bft, e1]
      rw [if_pos (by omega)]
  unfold f_82_10
  obtain ⟨b, hb, υ, rfl, h2⟩ := lp_for (F := fun s : Int32 × Int32 × px_M => F_82_10 tT 0 s.1 s.2.1 s.2.2) (fun j s => s.1 = nI (sk n B j) ∧ s.2.1 = nI j ∧ fr (on 15) σ s.2.2) (fun b => ∃ υ, b = (oI (rgm n B n), υ) ∧ fr (on 15) σ υ) n (fun j s hj hI => by
    obtain ⟨x, y, υ⟩ := s
    obtain ⟨hx, hy, h1⟩ := hI
    dsimp only at hx hy h1
    subst hx hy
    have hl := sk_le (n := n) (B := B) j
    have hmu := mo_on (by decide) h1 hm
    obtain ⟨hR, -, e1, -⟩ := id hmu
    obtain ⟨υ', q1, q2, q3⟩ := e_laysFar hmu hj
    refine ⟨(nI (sk n B (j + 1)), nI (j + 1), υ'), ?_, rfl, rfl, fr_tr h1 q2⟩
    simp (disch := omega) only [F_82_10, la_0, la_1, la_2, la_3, la_4, la_15, la_16, la_17, la_18, la_19, la_20, la_23, la_24, la_25, la_26, la_27, la_28, la_31, la_35, la_36, la_37, rm_0_1 hR, rm_0_2 hR, rm_0_3 hR, rm_0_4 hR, rm_0_15 hR, rm_0_16 hR, rm_0_17 hR, rm_0_18 hR, rm_0_19 hR, rm_0_20 hR, rm_0_23 hR, rm_0_24 hR, rm_0_25 hR, rm_0_26 hR, rm_0_27 hR, rm_0_28 hR, rm_0_31 hR, rm_0_35 hR, rm_0_36 hR, rm_0_37 hR, q1, gd_tt, oA_arr, px_obj_s, Option.bind_some, Option.map_some, Option.bind_none, eq_self, true_or, or_true, px_av_0, px_av_1, px_av_2, px_av_10, px_av_11, bn, wi_1, wi_2, wl_1, wl_21, wl_22, wr_1, wr_21, wr_22, Sum.elim_inl, Sum.elim_inr, ↓reduceIte, Nat.reduceLT, Nat.reduceLeDiff, not_false_eq_true, not_true_eq_false, Nat.reduceEqDiff, Nat.reduceAdd, reduceCtorEq, and_true, true_and, and_false, false_and, false_or, or_false, true_and, and_true, ni_divL, ni_subL, nI_add, pk_mul, nI_leI, nI_ltI, nI_eq, vp_in_eq, nI_clamp, ↓ni_tst, ni_tst2, fa_and, fa_or, ni_bit1, ni_1s, nI_l, mb_eq0, mb_ne0, mb_eq1, gd_tt, gd_t, bft, e1]
    rw [if_neg (by omega), middle j _ υ' hj hl (fr_tr h1 q2) q3]
    rfl) (fun s hI => by
    obtain ⟨x, y, υ⟩ := s
    obtain ⟨hx, hy, h1⟩ := hI
    dsimp only at hx hy h1
    subst hx hy
    have hl := sk_le (n := n) (B := B) n
    obtain ⟨hR, -, e1, -⟩ := id (mo_on (by decide) h1 hm)
    refine ⟨_, ?_, υ, rfl, h1⟩
    rw [← sk_rg hw]
    simp (disch := omega) only [F_82_10, la_0, la_1, la_2, la_3, la_4, la_15, la_16, la_17, la_18, la_19, la_20, la_23, la_24, la_25, la_26, la_27, la_28, la_31, la_35, la_36, la_37, rm_0_1 hR, rm_0_2 hR, rm_0_3 hR, rm_0_4 hR, rm_0_15 hR, rm_0_16 hR, rm_0_17 hR, rm_0_18 hR, rm_0_19 hR, rm_0_20 hR, rm_0_23 hR, rm_0_24 hR, rm_0_25 hR, rm_0_26 hR, rm_0_27 hR, rm_0_28 hR, rm_0_31 hR, rm_0_35 hR, rm_0_36 hR, rm_0_37 hR, gd_tt, oA_arr, px_obj_s, Option.bind_some, Option.map_some, Option.bind_none, eq_self, true_or, or_true, px_av_0, px_av_1, px_av_2, px_av_10, px_av_11, bn, wi_1, wi_2, wl_1, wl_21, wl_22, wr_1, wr_21, wr_22, Sum.elim_inl, Sum.elim_inr, ↓reduceIte, Nat.reduceLT, Nat.reduceLeDiff, not_false_eq_true, not_true_eq_false, Nat.reduceEqDiff, Nat.reduceAdd, reduceCtorEq, and_true, true_and, and_false, false_and, false_or, or_false, true_and, and_true, ni_divL, ni_subL, nI_add, pk_mul, nI_leI, nI_ltI, nI_eq, vp_in_eq, nI_clamp, ↓ni_tst, ni_tst2, fa_and, fa_or, ni_bit1, ni_1s, nI_l, mb_eq0, mb_ne0, mb_eq1, gd_tt, gd_t, bft, e1]
    rw [if_pos (by omega)]
    by_cases h9 : sk n B n = 99
    · simp [h9]
    · simp [h9]) 0 (nI 99, nI 0, σ) (by omega) ⟨rfl, rfl, fr_rf _ _⟩
  exact ⟨υ, hb, h2⟩
theorem a_scandal (hc : cl σ n B) : agQ (f_12024 tT σ 100) (fun τ => f_82 tT τ 0) n B := by
  obtain ⟨hR, ht⟩ := hc
  refine ⟨oI (rgm n B n), ?_, fun τ hm => ?_⟩
  · simp only [f_12024, la_100, la_102, la_103, la_104, la_105, la_110, la_111, la_112, la_113, la_114, la_115, la_116, la_117, la_120, la_121, la_122, la_123, la_124, la_125, la_126, la_127, la_130, la_131, la_132, la_133, la_134, la_135, la_136, la_137, la_140, la_141, la_142, la_143, la_144, la_145, la_146, la_147, la_150, la_151, la_152, la_153, la_160, la_161, la_170, la_171, la_172, la_173, la_174, la_180, la_181, la_182, la_183, la_184, la_185, la_186, la_190, la_191, la_192, la_193, la_194, la_195, la_200, la_201, la_202, la_210, la_211, la_212, la_213, la_214, la_215, la_216, la_217, la_218, la_219, la_220, la_221, la_222, la_223, la_224, la_225, la_226, la_230, la_231, la_232, la_233, la_234, la_240, la_241, rc_100_0 hR, rc_100_1 hR, rc_100_2 hR, rc_100_3 hR, rc_100_4 hR, rc_100_5 hR, rc_100_6 hR, rc_100_7 hR, rc_100_8 hR, rc_100_9 hR, rc_100_10 hR, rc_100_11 hR, rc_100_12 hR, rc_100_13 hR, rc_100_14 hR, rc_100_15 hR, rc_111_1 hR, rc_113_1 hR, rc_113_2 hR, rc_113_3 hR, rc_110_0 hR, rc_110_1 hR, rc_110_5 hR, rc_121_1 hR, rc_123_1 hR, rc_123_2 hR, rc_123_3 hR, rc_120_0 hR, rc_120_1 hR, rc_120_5 hR, rc_131_1 hR, rc_133_1 hR, rc_133_2 hR, rc_133_3 hR, rc_130_0 hR, rc_130_1 hR, rc_130_5 hR, rc_141_1 hR, rc_143_1 hR, rc_143_2 hR, rc_143_3 hR, rc_140_0 hR, rc_140_1 hR, rc_140_5 hR, rc_150_3 hR, rc_150_4 hR, rc_150_5 hR, rc_150_6 hR, rc_160_0 hR, rc_173_1 hR, rc_170_0 hR, rc_170_1 hR, rc_181_0 hR, rc_185_1 hR, rc_180_0 hR, rc_180_1 hR, rc_180_2 hR, rc_192_1 hR, rc_194_1 hR, rc_190_0 hR, rc_201_1 hR, rc_200_0 hR, rc_214_1 hR, rc_211_0 hR, rc_211_1 hR, rc_216_1 hR, rc_221_1 hR, rc_221_2 hR, rc_221_3 hR, rc_225_1 hR, rc_210_0 hR, rc_210_1 hR, rc_210_2 hR, rc_210_3 hR, rc_210_4 hR, rc_231_1 hR, rc_233_1 hR, rc_230_0 hR, rc_230_1 hR, rc_240_1 hR, gd_tt, oA_arr, px_obj_s, Option.bind_some, Option.map_some, Option.bind_none, eq_self, true_or, or_true, px_av_0, px_av_1, px_av_2, px_av_10, px_av_11, bn, wi_1, wi_2, wl_1, wl_21, wl_22, wr_1, wr_21, wr_22, Sum.elim_inl, Sum.elim_inr, ↓reduceIte, Nat.reduceLT, Nat.reduceLeDiff, not_false_eq_true, not_true_eq_false, Nat.reduceEqDiff, Nat.reduceAdd, reduceCtorEq, and_true, true_and, and_false, false_and, false_or, or_false, c_oddRing ht]
  · obtain ⟨υ, q1, q2⟩ := e_scandal (mo_thr hm)
    exact ⟨υ, by simp only [f_82, la_0, gd_tt, oA_arr, px_obj_s, Option.bind_some, Option.map_some, Option.bind_none, eq_self, true_or, or_true, px_av_0, px_av_1, px_av_2, px_av_10, px_av_11, bn, wi_1, wi_2, wl_1, wl_21, wl_22, wr_1, wr_21, wr_22, Sum.elim_inl, Sum.elim_inr, ↓reduceIte, Nat.reduceLT, Nat.reduceLeDiff, not_false_eq_true, not_true_eq_false, Nat.reduceEqDiff, Nat.reduceAdd, reduceCtorEq, and_true, true_and, and_false, false_and, false_or, or_false, q1], fr_tr (fr_thr (fr_rf _ _)) (fr_15 q2)⟩
end
