/-! the colour of a house: class and model alike -/
section
variable {σ τ : px_M} {n : Nat} {B : Nat → Nat} {k : Nat}
theorem c_hue (hc : cl σ n B) {h : Nat} (hh : h < n) : ∃ c υ, f_8006 tT σ 170 111 (nI h) = some (nI (c h), υ) ∧ fr (SP 170) σ υ ∧ pc B (2 ^ n - 1) (chi n B (2 ^ n - 1)) n c ∧ GF B n (2 ^ n - 1) (chi n B (2 ^ n - 1)) 0 c := by
  have hw := hc.2.2.2.2.1
  have hn := hw.1
  have hal : 2 ^ n - 1 < 2 ^ n := by have := Nat.two_pow_pos n; omega
  obtain ⟨υ, q1, q2, q3, q4⟩ := c_few170 hc hal
  have hcol := chi_col (s := 2 ^ n - 1) hw
  have hk : chi n B (2 ^ n - 1) ≤ 11 := chi_le
  generalize chi n B (2 ^ n - 1) = k at q1 hcol hk ⊢
  obtain ⟨hR, ht⟩ := hc
  obtain ⟨hR2, ht2⟩ := q4
  obtain ⟨ω, w1, w2, w3⟩ := c_fill (σ := υ) la_171 (by decide)
  have wr0 : ∀ (κ : Nat → Nat) e, wr κ 0 e = 0 := fun κ e => by
    apply tb_eq
    intro x
    rw [wr_tb, Nat.zero_testBit]
    constructor
    · rintro ⟨x1, -⟩; omega
    · intro z; cases z
  have hp : pt ω 170 111 n B (fun e => wr (fun _ => 0) 0 e) := ⟨la_170, la_171, rc_170_0 (cR_fr w2 hR2), by rw [w2.2.2 170 2 (Or.inl (by simp [on]))]; exact q3, ct_fr w2 (fun j => by simp [on]) (fun j => by simp [on]) ht2, fun e he => by rw [w3 e he]; dsimp only; rw [wr0], fun e => by dsimp only; rw [wr0]; omega⟩
  have on_SP : ∀ {α β : px_M}, fr (on 171) α β → fr (SP 170) α β := fun h => fr_mono h (fun l j q => by
    simp only [SP, Bool.or_eq_false_iff, beq_eq_false_iff_ne] at q
    simp only [on, beq_eq_false_iff_ne]
    exact q.1)
  rcases c_from (P := 170) (t := 111) (by decide) (by decide) (by decide) hk n 0 (by omega) 24 (by omega) ω (fun _ => 0) 0 hp ⟨fun x hx => absurd hx (by omega), fun x y hx => absurd hx (by omega)⟩ ⟨fun x hx => absurd hx (by omega), fun x hx => absurd hx (by omega)⟩ with ⟨ψ, v1, v2, c, c1, c2, c3, c4⟩ | ⟨ψ, v1, v2, v3, v4⟩
  · have hck : c h < k := c2.1 h hh (by rw [tb_all, decide_eq_true hh])
    have hRψ := cR_fr v2 (cR_fr w2 hR2)
    have hw2 : ∀ e, wr c n e < 2 ^ 31 := fun e => by
      have := bs_lt (p := fun x => decide (c x = e)) hn
      unfold wr
      omega
    have hlp : f_8006_28 tT ψ 170 (nI h) (nI k) (nI 0) = some (nI (c h), ψ) := by
      unfold f_8006_28
      refine lp_to (fun i => nI i) (c h) (fun i hi => ?_) ?_ 0 (by omega)
      · have hb : (wr c n i).testBit h = false := by
          cases hb : (wr c n i).testBit h with
          | false => rfl
          | true => have := ((wr_tb c n i h).mp hb).2; omega
        have c5 := c4 i (by omega)
        have := hw2 i
        have i11 : i < 11 := by omega
        simp (disch := omega) only [F_8006_28, la_100, la_102, la_103, la_104, la_105, la_110, la_111, la_112, la_113, la_114, la_115, la_116, la_117, la_120, la_121, la_122, la_123, la_124, la_125, la_126, la_127, la_130, la_131, la_132, la_133, la_134, la_135, la_136, la_137, la_140, la_141, la_142, la_143, la_144, la_145, la_146, la_147, la_150, la_151, la_152, la_153, la_160, la_161, la_170, la_171, la_172, la_173, la_174, la_180, la_181, la_182, la_183, la_184, la_185, la_186, la_190, la_191, la_192, la_193, la_194, la_195, la_200, la_201, la_202, la_210, la_211, la_212, la_213, la_214, la_215, la_216, la_217, la_218, la_219, la_220, la_221, la_222, la_223, la_224, la_225, la_226, la_230, la_231, la_232, la_233, la_234, la_240, la_241, rc_170_0 hRψ, c5, gd_tt, oA_arr, px_obj_s, Option.bind_some, Option.map_some, Option.bind_none, eq_self, true_or, or_true, px_av_0, px_av_1, px_av_2, px_av_10, px_av_11, bn, wi_1, wi_2, wl_1, wl_21, wl_22, wr_1, wr_21, wr_22, Sum.elim_inl, Sum.elim_inr, ↓reduceIte, Nat.reduceLT, Nat.reduceLeDiff, not_false_eq_true, not_true_eq_false, Nat.reduceEqDiff, Nat.reduceAdd, reduceCtorEq, and_true, true_and, and_false, false_and, false_or, or_false, true_and, and_true, ni_divL, ni_subL, nI_add, pk_mul, nI_leI, nI_ltI, nI_eq, vp_in_eq, nI_clamp, ↓ni_tst, ni_tst2, fa_and, fa_or, ni_bit1, ni_1s, nI_l, mb_eq0, mb_ne0, mb_eq1, gd_tt, gd_t, bft, hb, i11]
        rw [if_neg (by omega)]
      · have hb : (wr c n (c h)).testBit h = true := (wr_tb c n _ h).mpr ⟨hh, rfl⟩
        have c5 := c4 (c h) (by omega)
        have := hw2 (c h)
        have i11 : c h < 11 := by omega
        generalize c h = i at hck hb c5 this i11 ⊢
        simp (disch := omega) only [F_8006_28, la_100, la_102, la_103, la_104, la_105, la_110, la_111, la_112, la_113, la_114, la_115, la_116, la_117, la_120, la_121, la_122, la_123, la_124, la_125, la_126, la_127, la_130, la_131, la_132, la_133, la_134, la_135, la_136, la_137, la_140, la_141, la_142, la_143, la_144, la_145, la_146, la_147, la_150, la_151, la_152, la_153, la_160, la_161, la_170, la_171, la_172, la_173, la_174, la_180, la_181, la_182, la_183, la_184, la_185, la_186, la_190, la_191, la_192, la_193, la_194, la_195, la_200, la_201, la_202, la_210, la_211, la_212, la_213, la_214, la_215, la_216, la_217, la_218, la_219, la_220, la_221, la_222, la_223, la_224, la_225, la_226, la_230, la_231, la_232, la_233, la_234, la_240, la_241, rc_170_0 hRψ, c5, gd_tt, oA_arr, px_obj_s, Option.bind_some, Option.map_some, Option.bind_none, eq_self, true_or, or_true, px_av_0, px_av_1, px_av_2, px_av_10, px_av_11, bn, wi_1, wi_2, wl_1, wl_21, wl_22, wr_1, wr_21, wr_22, Sum.elim_inl, Sum.elim_inr, ↓reduceIte, Nat.reduceLT, Nat.reduceLeDiff, not_false_eq_true, not_true_eq_false, Nat.reduceEqDiff, Nat.reduceAdd, reduceCtorEq, and_true, true_and, and_false, false_and, false_or, or_false, true_and, and_true, ni_divL, ni_subL, nI_add, pk_mul, nI_leI, nI_ltI, nI_eq, vp_in_eq, nI_clamp, ↓ni_tst, ni_tst2, fa_and, fa_or, ni_bit1, ni_1s, nI_l, mb_eq0, mb_ne0, mb_eq1, gd_tt, gd_t, bft, hb, i11]
        rw [if_neg (by omega)]
    refine ⟨c, ψ, ?_, fr_tr q2 (fr_tr (on_SP w2) (on_SP v2)), c2, c3⟩
    simp only [f_8006, f_8006_18, la_100, la_102, la_103, la_104, la_105, la_110, la_111, la_112, la_113, la_114, la_115, la_116, la_117, la_120, la_121, la_122, la_123, la_124, la_125, la_126, la_127, la_130, la_131, la_132, la_133, la_134, la_135, la_136, la_137, la_140, la_141, la_142, la_143, la_144, la_145, la_146, la_147, la_150, la_151, la_152, la_153, la_160, la_161, la_170, la_171, la_172, la_173, la_174, la_180, la_181, la_182, la_183, la_184, la_185, la_186, la_190, la_191, la_192, la_193, la_194, la_195, la_200, la_201, la_202, la_210, la_211, la_212, la_213, la_214, la_215, la_216, la_217, la_218, la_219, la_220, la_221, la_222, la_223, la_224, la_225, la_226, la_230, la_231, la_232, la_233, la_234, la_240, la_241, rc_170_0 hR2, gd_tt, oA_arr, px_obj_s, Option.bind_some, Option.map_some, Option.bind_none, eq_self, true_or, or_true, px_av_0, px_av_1, px_av_2, px_av_10, px_av_11, bn, wi_1, wi_2, wl_1, wl_21, wl_22, wr_1, wr_21, wr_22, Sum.elim_inl, Sum.elim_inr, ↓reduceIte, Nat.reduceLT, Nat.reduceLeDiff, not_false_eq_true, not_true_eq_false, Nat.reduceEqDiff, Nat.reduceAdd, reduceCtorEq, and_true, true_and, and_false, false_and, false_or, or_false, c_all ht, q1, w1, v1, hlp]
  · exact absurd (col_Ex.mpr hcol) v4
theorem a_colour (hc : cl σ n B) (v : Int32) : agI σ (f_12032 tT σ 100 v) (fun τ => f_92 tT τ 0 v) n B := by
  have hw := hc.2.2.2.2.1
  have hn := hw.1
  rcases hs_cases v hn with ⟨h, hh, rfl⟩ | hno
  · obtain ⟨c, υ, q1, q2, q3, q4⟩ := c_hue hc hh
    obtain ⟨hR, ht⟩ := hc
    refine ⟨nI (c h), υ, ?_, SC_170 q2, fun τ hm => ?_⟩
    · simp only [f_12032, la_100, la_102, la_103, la_104, la_105, la_110, la_111, la_112, la_113, la_114, la_115, la_116, la_117, la_120, la_121, la_122, la_123, la_124, la_125, la_126, la_127, la_130, la_131, la_132, la_133, la_134, la_135, la_136, la_137, la_140, la_141, la_142, la_143, la_144, la_145, la_146, la_147, la_150, la_151, la_152, la_153, la_160, la_161, la_170, la_171, la_172, la_173, la_174, la_180, la_181, la_182, la_183, la_184, la_185, la_186, la_190, la_191, la_192, la_193, la_194, la_195, la_200, la_201, la_202, la_210, la_211, la_212, la_213, la_214, la_215, la_216, la_217, la_218, la_219, la_220, la_221, la_222, la_223, la_224, la_225, la_226, la_230, la_231, la_232, la_233, la_234, la_240, la_241, rc_100_0 hR, rc_100_1 hR, rc_100_2 hR, rc_100_3 hR, rc_100_4 hR, rc_100_5 hR, rc_100_6 hR, rc_100_7 hR, rc_100_8 hR, rc_100_9 hR, rc_100_10 hR, rc_100_11 hR, rc_100_12 hR, rc_100_13 hR, rc_100_14 hR, rc_100_15 hR, rc_111_1 hR, rc_113_1 hR, rc_113_2 hR, rc_113_3 hR, rc_110_0 hR, rc_110_1 hR, rc_110_5 hR, rc_121_1 hR, rc_123_1 hR, rc_123_2 hR, rc_123_3 hR, rc_120_0 hR, rc_120_1 hR, rc_120_5 hR, rc_131_1 hR, rc_133_1 hR, rc_133_2 hR, rc_133_3 hR, rc_130_0 hR, rc_130_1 hR, rc_130_5 hR, rc_141_1 hR, rc_143_1 hR, rc_143_2 hR, rc_143_3 hR, rc_140_0 hR, rc_140_1 hR, rc_140_5 hR, rc_150_3 hR, rc_150_4 hR, rc_150_5 hR, rc_150_6 hR, rc_160_0 hR, rc_173_1 hR, rc_170_0 hR, rc_170_1 hR, rc_181_0 hR, rc_185_1 hR, rc_180_0 hR, rc_180_1 hR, rc_180_2 hR, rc_192_1 hR, rc_194_1 hR, rc_190_0 hR, rc_201_1 hR, rc_200_0 hR, rc_214_1 hR, rc_211_0 hR, rc_211_1 hR, rc_216_1 hR, rc_221_1 hR, rc_221_2 hR, rc_221_3 hR, rc_225_1 hR, rc_210_0 hR, rc_210_1 hR, rc_210_2 hR, rc_210_3 hR, rc_210_4 hR, rc_231_1 hR, rc_233_1 hR, rc_230_0 hR, rc_230_1 hR, rc_240_1 hR, gd_tt, oA_arr, px_obj_s, Option.bind_some, Option.map_some, Option.bind_none, eq_self, true_or, or_true, px_av_0, px_av_1, px_av_2, px_av_10, px_av_11, bn, wi_1, wi_2, wl_1, wl_21, wl_22, wr_1, wr_21, wr_22, Sum.elim_inl, Sum.elim_inr, ↓reduceIte, Nat.reduceLT, Nat.reduceLeDiff, not_false_eq_true, not_true_eq_false, Nat.reduceEqDiff, Nat.reduceAdd, reduceCtorEq, and_true, true_and, and_false, false_and, false_or, or_false, c_hasI ht hh, q1, n10]
    · obtain ⟨ω, w1, w2, e, e1, e2, e3⟩ := e_fewest (mo_thr hm) (bt_all hn)
      have hsh : (2 ^ n - 1).testBit h = true := by rw [tb_all, decide_eq_true hh]
      have hR2 := (mo_on (by decide) w2 (mo_thr hm)).1
      have h11 : h < 11 := by omega
      have e4 := e3 h hh hsh
      have e5 := GF_uniq e1 q3 e2 q4 h hh hsh
      rw [e5] at e4
      refine ⟨ω, ?_, fr_tr (fr_thr (fr_rf _ _)) (SM_16 w2)⟩
      simp only [f_92, la_0, la_1, la_2, la_3, la_4, la_15, la_16, la_17, la_18, la_19, la_20, la_23, la_24, la_25, la_26, la_27, la_28, la_31, la_35, la_36, la_37, gd_tt, oA_arr, px_obj_s, Option.bind_some, Option.map_some, Option.bind_none, eq_self, true_or, or_true, px_av_0, px_av_1, px_av_2, px_av_10, px_av_11, bn, wi_1, wi_2, wl_1, wl_21, wl_22, wr_1, wr_21, wr_22, Sum.elim_inl, Sum.elim_inr, ↓reduceIte, Nat.reduceLT, Nat.reduceLeDiff, not_false_eq_true, not_true_eq_false, Nat.reduceEqDiff, Nat.reduceAdd, reduceCtorEq, and_true, true_and, and_false, false_and, false_or, or_false, e_hs (mo_thr hm) hh, w1, n10, rm_0_16 hR2]
      simp (disch := omega) only [gd_tt, oA_arr, px_obj_s, Option.bind_some, Option.map_some, Option.bind_none, eq_self, true_or, or_true, px_av_0, px_av_1, px_av_2, px_av_10, px_av_11, bn, wi_1, wi_2, wl_1, wl_21, wl_22, wr_1, wr_21, wr_22, Sum.elim_inl, Sum.elim_inr, ↓reduceIte, Nat.reduceLT, Nat.reduceLeDiff, not_false_eq_true, not_true_eq_false, Nat.reduceEqDiff, Nat.reduceAdd, reduceCtorEq, and_true, true_and, and_false, false_and, false_or, or_false, true_and, and_true, ni_divL, ni_subL, nI_add, pk_mul, nI_leI, nI_ltI, nI_eq, vp_in_eq, nI_clamp, ↓ni_tst, ni_tst2, fa_and, fa_or, ni_bit1, ni_1s, nI_l, mb_eq0, mb_ne0, mb_eq1, gd_tt, gd_t, bft, e4, h11]
  · obtain ⟨hR, ht⟩ := hc
    refine ⟨-2, σ, ?_, fr_rf _ _, fun τ hm => ⟨_, ?_, fr_thr (fr_rf _ _)⟩⟩
    · simp only [f_12032, la_100, la_102, la_103, la_104, la_105, la_110, la_111, la_112, la_113, la_114, la_115, la_116, la_117, la_120, la_121, la_122, la_123, la_124, la_125, la_126, la_127, la_130, la_131, la_132, la_133, la_134, la_135, la_136, la_137, la_140, la_141, la_142, la_143, la_144, la_145, la_146, la_147, la_150, la_151, la_152, la_153, la_160, la_161, la_170, la_171, la_172, la_173, la_174, la_180, la_181, la_182, la_183, la_184, la_185, la_186, la_190, la_191, la_192, la_193, la_194, la_195, la_200, la_201, la_202, la_210, la_211, la_212, la_213, la_214, la_215, la_216, la_217, la_218, la_219, la_220, la_221, la_222, la_223, la_224, la_225, la_226, la_230, la_231, la_232, la_233, la_234, la_240, la_241, rc_100_0 hR, rc_100_1 hR, rc_100_2 hR, rc_100_3 hR, rc_100_4 hR, rc_100_5 hR, rc_100_6 hR, rc_100_7 hR, rc_100_8 hR, rc_100_9 hR, rc_100_10 hR, rc_100_11 hR, rc_100_12 hR, rc_100_13 hR, rc_100_14 hR, rc_100_15 hR, rc_111_1 hR, rc_113_1 hR, rc_113_2 hR, rc_113_3 hR, rc_110_0 hR, rc_110_1 hR, rc_110_5 hR, rc_121_1 hR, rc_123_1 hR, rc_123_2 hR, rc_123_3 hR, rc_120_0 hR, rc_120_1 hR, rc_120_5 hR, rc_131_1 hR, rc_133_1 hR, rc_133_2 hR, rc_133_3 hR, rc_130_0 hR, rc_130_1 hR, rc_130_5 hR, rc_141_1 hR, rc_143_1 hR, rc_143_2 hR, rc_143_3 hR, rc_140_0 hR, rc_140_1 hR, rc_140_5 hR, rc_150_3 hR, rc_150_4 hR, rc_150_5 hR, rc_150_6 hR, rc_160_0 hR, rc_173_1 hR, rc_170_0 hR, rc_170_1 hR, rc_181_0 hR, rc_185_1 hR, rc_180_0 hR, rc_180_1 hR, rc_180_2 hR, rc_192_1 hR, rc_194_1 hR, rc_190_0 hR, rc_201_1 hR, rc_200_0 hR, rc_214_1 hR, rc_211_0 hR, rc_211_1 hR, rc_216_1 hR, rc_221_1 hR, rc_221_2 hR, rc_221_3 hR, rc_225_1 hR, rc_210_0 hR, rc_210_1 hR, rc_210_2 hR, rc_210_3 hR, rc_210_4 hR, rc_231_1 hR, rc_233_1 hR, rc_230_0 hR, rc_230_1 hR, rc_240_1 hR, gd_tt, oA_arr, px_obj_s, Option.bind_some, Option.map_some, Option.bind_none, eq_self, true_or, or_true, px_av_0, px_av_1, px_av_2, px_av_10, px_av_11, bn, wi_1, wi_2, wl_1, wl_21, wl_22, wr_1, wr_21, wr_22, Sum.elim_inl, Sum.elim_inr, ↓reduceIte, Nat.reduceLT, Nat.reduceLeDiff, not_false_eq_true, not_true_eq_false, Nat.reduceEqDiff, Nat.reduceAdd, reduceCtorEq, and_true, true_and, and_false, false_and, false_or, or_false, c_has0 ht hno]
    · simp only [f_92, la_0, la_1, la_2, la_3, la_4, la_15, la_16, la_17, la_18, la_19, la_20, la_23, la_24, la_25, la_26, la_27, la_28, la_31, la_35, la_36, la_37, gd_tt, oA_arr, px_obj_s, Option.bind_some, Option.map_some, Option.bind_none, eq_self, true_or, or_true, px_av_0, px_av_1, px_av_2, px_av_10, px_av_11, bn, wi_1, wi_2, wl_1, wl_21, wl_22, wr_1, wr_21, wr_22, Sum.elim_inl, Sum.elim_inr, ↓reduceIte, Nat.reduceLT, Nat.reduceLeDiff, not_false_eq_true, not_true_eq_false, Nat.reduceEqDiff, Nat.reduceAdd, reduceCtorEq, and_true, true_and, and_false, false_and, false_or, or_false, e_hs0 (mo_thr hm) hno]
end
