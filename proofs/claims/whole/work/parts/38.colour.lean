/-! colours, dear, colour: class and model alike -/
section
variable {σ τ : px_M} {P t n : Nat} {B W : Nat → Nat} {s k : Nat}
theorem SM_16 {σ τ : px_M} (h : fr (on 16) σ τ) : fr SM σ τ := fr_mono h (fun l j q => by
  simp only [on, beq_eq_false_iff_ne]
  intro z
  subst z
  simp [SM] at q)
theorem SC_170 {σ τ : px_M} (h : fr (SP 170) σ τ) : fr SC σ τ := fr_mono h (fun l j q => by
  simp only [SC, Bool.and_eq_false_iff, decide_eq_false_iff_not] at q
  simp [SP]
  constructor
  · omega
  · intro z; omega)
theorem c_few170 (hc : cl σ n B) (hs : s < 2 ^ n) : ∃ υ, f_8002 tT σ 170 111 (nI s) = some (nI (chi n B s), υ) ∧ fr (SP 170) σ υ ∧ υ.2.2 170 2 = some 111 ∧ cl υ n B := by
  obtain ⟨hR, ht⟩ := hc
  obtain ⟨υ, q1, q2, q3⟩ := c_fewest (P := 170) (t := 111) la_170 la_171 (rc_170_0 hR) (by decide) (by decide) (by decide) (by decide) (by decide) (by decide) (by decide) ht hs
  exact ⟨υ, q1, q2, q3, cR_fr q2 hR, ct_fr q2 (fun j => by simp [SP]) (fun j => by simp [SP]) ht⟩
theorem a_colours (hc : cl σ n B) : agI σ (f_12031 tT σ 100) (fun τ => f_91 tT τ 0) n B := by
  have hw := hc.2.2.2.2.1
  have hn := hw.1
  have hal : 2 ^ n - 1 < 2 ^ n := by have := Nat.two_pow_pos n; omega
  obtain ⟨υ, q1, q2, -, -⟩ := c_few170 hc hal
  obtain ⟨hR, ht⟩ := hc
  refine ⟨nI (chi n B (2 ^ n - 1)), υ, ?_, SC_170 q2, fun τ hm => ?_⟩
  · simp only [f_12031, la_100, la_102, la_103, la_104, la_105, la_110, la_111, la_112, la_113, la_114, la_115, la_116, la_117, la_120, la_121, la_122, la_123, la_124, la_125, la_126, la_127, la_130, la_131, la_132, la_133, la_134, la_135, la_136, la_137, la_140, la_141, la_142, la_143, la_144, la_145, la_146, la_147, la_150, la_151, la_152, la_153, la_160, la_161, la_170, la_171, la_172, la_173, la_174, la_180, la_181, la_182, la_183, la_184, la_185, la_186, la_190, la_191, la_192, la_193, la_194, la_195, la_200, la_201, la_202, la_210, la_211, la_212, la_213, la_214, la_215, la_216, la_217, la_218, la_219, la_220, la_221, la_222, la_223, la_224, la_225, la_226, la_230, la_231, la_232, la_233, la_234, la_240, la_241, rc_100_0 hR, rc_100_1 hR, rc_100_2 hR, rc_100_3 hR, rc_100_4 hR, rc_100_5 hR, rc_100_6 hR, rc_100_7 hR, rc_100_8 hR, rc_100_9 hR, rc_100_10 hR, rc_100_11 hR, rc_100_12 hR, rc_100_13 hR, rc_100_14 hR, rc_100_15 hR, rc_111_1 hR, rc_113_1 hR, rc_113_2 hR, rc_113_3 hR, rc_110_0 hR, rc_110_1 hR, rc_110_5 hR, rc_121_1 hR, rc_123_1 hR, rc_123_2 hR, rc_123_3 hR, rc_120_0 hR, rc_120_1 hR, rc_120_5 hR, rc_131_1 hR, rc_133_1 hR, rc_133_2 hR, rc_133_3 hR, rc_130_0 hR, rc_130_1 hR, rc_130_5 hR, rc_141_1 hR, rc_143_1 hR, rc_143_2 hR, rc_143_3 hR, rc_140_0 hR, rc_140_1 hR, rc_140_5 hR, rc_150_3 hR, rc_150_4 hR, rc_150_5 hR, rc_150_6 hR, rc_160_0 hR, rc_173_1 hR, rc_170_0 hR, rc_170_1 hR, rc_181_0 hR, rc_185_1 hR, rc_180_0 hR, rc_180_1 hR, rc_180_2 hR, rc_192_1 hR, rc_194_1 hR, rc_190_0 hR, rc_201_1 hR, rc_200_0 hR, rc_214_1 hR, rc_211_0 hR, rc_211_1 hR, rc_216_1 hR, rc_221_1 hR, rc_221_2 hR, rc_221_3 hR, rc_225_1 hR, rc_210_0 hR, rc_210_1 hR, rc_210_2 hR, rc_210_3 hR, rc_210_4 hR, rc_231_1 hR, rc_233_1 hR, rc_230_0 hR, rc_230_1 hR, rc_240_1 hR, gd_tt, oA_arr, px_obj_s, Option.bind_some, Option.map_some, Option.bind_none, eq_self, true_or, or_true, px_av_0, px_av_1, px_av_2, px_av_10, px_av_11, bn, wi_1, wi_2, wl_1, wl_21, wl_22, wr_1, wr_21, wr_22, Sum.elim_inl, Sum.elim_inr, ↓reduceIte, Nat.reduceLT, Nat.reduceLeDiff, not_false_eq_true, not_true_eq_false, Nat.reduceEqDiff, Nat.reduceAdd, reduceCtorEq, and_true, true_and, and_false, false_and, false_or, or_false, c_all ht, q1]
  · obtain ⟨ω, w1, w2, -⟩ := e_fewest (mo_thr hm) (bt_all hn)
    refine ⟨ω, ?_, fr_tr (fr_thr (fr_rf _ _)) (SM_16 w2)⟩
    simp only [f_91, la_0, gd_tt, oA_arr, px_obj_s, Option.bind_some, Option.map_some, Option.bind_none, eq_self, true_or, or_true, px_av_0, px_av_1, px_av_2, px_av_10, px_av_11, bn, wi_1, wi_2, wl_1, wl_21, wl_22, wr_1, wr_21, wr_22, Sum.elim_inl, Sum.elim_inr, ↓reduceIte, Nat.reduceLT, Nat.reduceLeDiff, not_false_eq_true, not_true_eq_false, Nat.reduceEqDiff, Nat.reduceAdd, reduceCtorEq, and_true, true_and, and_false, false_and, false_or, or_false, w1]
theorem dear_core (hc : cl σ n B) (C0 : Nat) (C : Nat → Nat) (h0 : C0 ≤ 11) (h1 : ∀ j, C j ≤ 11) (fa : ∀ σ, cl σ n B → ∃ υ, f_8002 tT σ 170 111 (nI (2 ^ n - 1)) = some (nI C0, υ) ∧ fr (SP 170) σ υ ∧ cl υ n B) (fb : ∀ j σ, j < n → cl σ n B → ∃ υ, f_8002 tT σ 170 111 (nI (nd (2 ^ n - 1) (2 ^ j))) = some (nI (C j), υ) ∧ fr (SP 170) σ υ ∧ cl υ n B) (ma : ∀ σ, mo σ n B → ∃ υ, f_43 tT σ 0 (-1) = some (nI C0, υ) ∧ fr (on 16) σ υ) (mb' : ∀ j σ, j < n → mo σ n B → ∃ υ, f_43 tT σ 0 (nI j) = some (nI (C j), υ) ∧ fr (on 16) σ υ) : agI σ (f_12034 tT σ 100) (fun τ => f_94 tT τ 0) n B := by
  have hw := hc.2.2.2.2.1
  have hn := hw.1
  have hal2 := al_lt hn
  obtain ⟨υ, q1, q2, hcυ⟩ := fa σ hc
  obtain ⟨r, hr⟩ : ∃ r, r = (fo (fun h => if C h < C0 then some (nI h) else none) n).getD (-1) := ⟨_, rfl⟩
  have fo_tail : ∀ j, j < n → (∀ x, x < j → ¬ C x < C0) → C j < C0 → r = nI j := fun j hj h1 h2 => by
    rw [hr, fo_some (i := j) (r := nI j) (by simp [h2]) (fun x hx => by simp [h1 x hx]) hj]
    rfl
  have fo_none' : (∀ x, x < n → ¬ C x < C0) → r = -1 := fun h1 => by
    rw [hr, fo_none (fun x hx => by simp [h1 x hx])]
    rfl
  clear hr
  have lpc : ∃ ω, f_12034_29 tT 100 (nI (2 ^ n - 1)) (nI C0) (nI 0) υ = some (r, ω) ∧ fr (SP 170) υ ω := by
    unfold f_12034_29
    obtain ⟨b, hb, ω, rfl, w1⟩ := lp_rel (F := fun q : Int32 × px_M => F_12034_29 tT 100 (nI (2 ^ n - 1)) (nI C0) q.1 q.2) (fun j q => q.1 = nI j ∧ fr (SP 170) υ q.2 ∧ cl q.2 n B ∧ ∀ x, x < j → ¬ C x < C0) (fun b => ∃ ω, b = (r, ω) ∧ fr (SP 170) υ ω) n (fun j q hj hI => by
      obtain ⟨x, ω⟩ := q
      obtain ⟨hx, g1, g2, g3⟩ := hI
      dsimp only at hx g1 g2 g3
      subst hx
      obtain ⟨hR, ht⟩ := id g2
      have e1 := ht.2.2.2.2.1
      by_cases hjn : j = n
      · right
        refine ⟨(-1, ω), ?_, ω, by rw [fo_none' (by rw [← hjn]; exact g3)], g1⟩
        simp (disch := omega) only [F_12034_29, la_100, la_102, la_103, la_104, la_105, la_110, la_111, la_112, la_113, la_114, la_115, la_116, la_117, la_120, la_121, la_122, la_123, la_124, la_125, la_126, la_127, la_130, la_131, la_132, la_133, la_134, la_135, la_136, la_137, la_140, la_141, la_142, la_143, la_144, la_145, la_146, la_147, la_150, la_151, la_152, la_153, la_160, la_161, la_170, la_171, la_172, la_173, la_174, la_180, la_181, la_182, la_183, la_184, la_185, la_186, la_190, la_191, la_192, la_193, la_194, la_195, la_200, la_201, la_202, la_210, la_211, la_212, la_213, la_214, la_215, la_216, la_217, la_218, la_219, la_220, la_221, la_222, la_223, la_224, la_225, la_226, la_230, la_231, la_232, la_233, la_234, la_240, la_241, rc_100_0 hR, rc_100_1 hR, rc_100_2 hR, rc_100_3 hR, rc_100_4 hR, rc_100_5 hR, rc_100_6 hR, rc_100_7 hR, rc_100_8 hR, rc_100_9 hR, rc_100_10 hR, rc_100_11 hR, rc_100_12 hR, rc_100_13 hR, rc_100_14 hR, rc_100_15 hR, rc_111_1 hR, rc_113_1 hR, rc_113_2 hR, rc_113_3 hR, rc_110_0 hR, rc_110_1 hR, rc_110_5 hR, rc_121_1 hR, rc_123_1 hR, rc_123_2 hR, rc_123_3 hR, rc_120_0 hR, rc_120_1 hR, rc_120_5 hR, rc_131_1 hR, rc_133_1 hR, rc_133_2 hR, rc_133_3 hR, rc_130_0 hR, rc_130_1 hR, rc_130_5 hR, rc_141_1 hR, rc_143_1 hR, rc_143_2 hR, rc_143_3 hR, rc_140_0 hR, rc_140_1 hR, rc_140_5 hR, rc_150_3 hR, rc_150_4 hR, rc_150_5 hR, rc_150_6 hR, rc_160_0 hR, rc_173_1 hR, rc_170_0 hR, rc_170_1 hR, rc_181_0 hR, rc_185_1 hR, rc_180_0 hR, rc_180_1 hR, rc_180_2 hR, rc_192_1 hR, rc_194_1 hR, rc_190_0 hR, rc_201_1 hR, rc_200_0 hR, rc_214_1 hR, rc_211_0 hR, rc_211_1 hR, rc_216_1 hR, rc_221_1 hR, rc_221_2 hR, rc_221_3 hR, rc_225_1 hR, rc_210_0 hR, rc_210_1 hR, rc_210_2 hR, rc_210_3 hR, rc_210_4 hR, rc_231_1 hR, rc_233_1 hR, rc_230_0 hR, rc_230_1 hR, rc_240_1 hR, e1, gd_tt, oA_arr, px_obj_s, Option.bind_some, Option.map_some, Option.bind_none, eq_self, true_or, or_true, px_av_0, px_av_1, px_av_2, px_av_10, px_av_11, bn, wi_1, wi_2, wl_1, wl_21, wl_22, wr_1, wr_21, wr_22, Sum.elim_inl, Sum.elim_inr, ↓reduceIte, Nat.reduceLT, Nat.reduceLeDiff, not_false_eq_true, not_true_eq_false, Nat.reduceEqDiff, Nat.reduceAdd, reduceCtorEq, and_true, true_and, and_false, false_and, false_or, or_false, true_and, and_true, ni_divL, ni_subL, nI_add, pk_mul, nI_leI, nI_ltI, nI_eq, vp_in_eq, nI_clamp, ↓ni_tst, ni_tst2, fa_and, fa_or, ni_bit1, ni_1s, nI_l, mb_eq0, mb_ne0, mb_eq1, gd_tt, gd_t, bft]
        rw [if_pos (by omega)]
      · obtain ⟨ψ, w1, w2, w4⟩ := fb j ω (by omega) g2
        have c1 := h1 j
        have hF : F_12034_29 tT 100 (nI (2 ^ n - 1)) (nI C0) (nI j) ω = if C0 ≤ C j then some (.inl (nI (j + 1), ψ)) else some (.inr (nI j, ψ)) := by
          simp (disch := omega) only [F_12034_29, la_100, la_102, la_103, la_104, la_105, la_110, la_111, la_112, la_113, la_114, la_115, la_116, la_117, la_120, la_121, la_122, la_123, la_124, la_125, la_126, la_127, la_130, la_131, la_132, la_133, la_134, la_135, la_136, la_137, la_140, la_141, la_142, la_143, la_144, la_145, la_146, la_147, la_150, la_151, la_152, la_153, la_160, la_161, la_170, la_171, la_172, la_173, la_174, la_180, la_181, la_182, la_183, la_184, la_185, la_186, la_190, la_191, la_192, la_193, la_194, la_195, la_200, la_201, la_202, la_210, la_211, la_212, la_213, la_214, la_215, la_216, la_217, la_218, la_219, la_220, la_221, la_222, la_223, la_224, la_225, la_226, la_230, la_231, la_232, la_233, la_234, la_240, la_241, rc_100_0 hR, rc_100_1 hR, rc_100_2 hR, rc_100_3 hR, rc_100_4 hR, rc_100_5 hR, rc_100_6 hR, rc_100_7 hR, rc_100_8 hR, rc_100_9 hR, rc_100_10 hR, rc_100_11 hR, rc_100_12 hR, rc_100_13 hR, rc_100_14 hR, rc_100_15 hR, rc_111_1 hR, rc_113_1 hR, rc_113_2 hR, rc_113_3 hR, rc_110_0 hR, rc_110_1 hR, rc_110_5 hR, rc_121_1 hR, rc_123_1 hR, rc_123_2 hR, rc_123_3 hR, rc_120_0 hR, rc_120_1 hR, rc_120_5 hR, rc_131_1 hR, rc_133_1 hR, rc_133_2 hR, rc_133_3 hR, rc_130_0 hR, rc_130_1 hR, rc_130_5 hR, rc_141_1 hR, rc_143_1 hR, rc_143_2 hR, rc_143_3 hR, rc_140_0 hR, rc_140_1 hR, rc_140_5 hR, rc_150_3 hR, rc_150_4 hR, rc_150_5 hR, rc_150_6 hR, rc_160_0 hR, rc_173_1 hR, rc_170_0 hR, rc_170_1 hR, rc_181_0 hR, rc_185_1 hR, rc_180_0 hR, rc_180_1 hR, rc_180_2 hR, rc_192_1 hR, rc_194_1 hR, rc_190_0 hR, rc_201_1 hR, rc_200_0 hR, rc_214_1 hR, rc_211_0 hR, rc_211_1 hR, rc_216_1 hR, rc_221_1 hR, rc_221_2 hR, rc_221_3 hR, rc_225_1 hR, rc_210_0 hR, rc_210_1 hR, rc_210_2 hR, rc_210_3 hR, rc_210_4 hR, rc_231_1 hR, rc_233_1 hR, rc_230_0 hR, rc_230_1 hR, rc_240_1 hR, e1, gd_tt, oA_arr, px_obj_s, Option.bind_some, Option.map_some, Option.bind_none, eq_self, true_or, or_true, px_av_0, px_av_1, px_av_2, px_av_10, px_av_11, bn, wi_1, wi_2, wl_1, wl_21, wl_22, wr_1, wr_21, wr_22, Sum.elim_inl, Sum.elim_inr, ↓reduceIte, Nat.reduceLT, Nat.reduceLeDiff, not_false_eq_true, not_true_eq_false, Nat.reduceEqDiff, Nat.reduceAdd, reduceCtorEq, and_true, true_and, and_false, false_and, false_or, or_false, true_and, and_true, ni_divL, ni_subL, nI_add, pk_mul, nI_leI, nI_ltI, nI_eq, vp_in_eq, nI_clamp, ↓ni_tst, ni_tst2, fa_and, fa_or, ni_bit1, ni_1s, nI_l, mb_eq0, mb_ne0, mb_eq1, gd_tt, gd_t, bft, ni_nd, w1]
          rw [if_neg (by omega)]
        by_cases hlt : C j < C0
        · right
          exact ⟨(nI j, ψ), by rw [hF, if_neg (by omega)], ψ, by rw [fo_tail j (by omega) g3 hlt], fr_tr g1 w2⟩
        · left
          refine ⟨(nI (j + 1), ψ), by rw [hF, if_pos (by omega)], by omega, rfl, fr_tr g1 w2, w4, fun x hx => ?_⟩
          by_cases hxj : x = j
          · subst hxj; exact hlt
          · exact g3 x (by omega)) 0 (nI 0, υ) (by omega) ⟨rfl, fr_rf _ _, hcυ, fun x hx => absurd hx (by omega)⟩
    exact ⟨ω, hb, w1⟩
  obtain ⟨ω, w1, w2⟩ := lpc
  obtain ⟨hR, ht⟩ := hc
  refine ⟨r, ω, ?_, SC_170 (fr_tr q2 w2), fun τ hm => ?_⟩
  · simp only [f_12034, la_100, la_102, la_103, la_104, la_105, la_110, la_111, la_112, la_113, la_114, la_115, la_116, la_117, la_120, la_121, la_122, la_123, la_124, la_125, la_126, la_127, la_130, la_131, la_132, la_133, la_134, la_135, la_136, la_137, la_140, la_141, la_142, la_143, la_144, la_145, la_146, la_147, la_150, la_151, la_152, la_153, la_160, la_161, la_170, la_171, la_172, la_173, la_174, la_180, la_181, la_182, la_183, la_184, la_185, la_186, la_190, la_191, la_192, la_193, la_194, la_195, la_200, la_201, la_202, la_210, la_211, la_212, la_213, la_214, la_215, la_216, la_217, la_218, la_219, la_220, la_221, la_222, la_223, la_224, la_225, la_226, la_230, la_231, la_232, la_233, la_234, la_240, la_241, rc_100_0 hR, rc_100_1 hR, rc_100_2 hR, rc_100_3 hR, rc_100_4 hR, rc_100_5 hR, rc_100_6 hR, rc_100_7 hR, rc_100_8 hR, rc_100_9 hR, rc_100_10 hR, rc_100_11 hR, rc_100_12 hR, rc_100_13 hR, rc_100_14 hR, rc_100_15 hR, rc_111_1 hR, rc_113_1 hR, rc_113_2 hR, rc_113_3 hR, rc_110_0 hR, rc_110_1 hR, rc_110_5 hR, rc_121_1 hR, rc_123_1 hR, rc_123_2 hR, rc_123_3 hR, rc_120_0 hR, rc_120_1 hR, rc_120_5 hR, rc_131_1 hR, rc_133_1 hR, rc_133_2 hR, rc_133_3 hR, rc_130_0 hR, rc_130_1 hR, rc_130_5 hR, rc_141_1 hR, rc_143_1 hR, rc_143_2 hR, rc_143_3 hR, rc_140_0 hR, rc_140_1 hR, rc_140_5 hR, rc_150_3 hR, rc_150_4 hR, rc_150_5 hR, rc_150_6 hR, rc_160_0 hR, rc_173_1 hR, rc_170_0 hR, rc_170_1 hR, rc_181_0 hR, rc_185_1 hR, rc_180_0 hR, rc_180_1 hR, rc_180_2 hR, rc_192_1 hR, rc_194_1 hR, rc_190_0 hR, rc_201_1 hR, rc_200_0 hR, rc_214_1 hR, rc_211_0 hR, rc_211_1 hR, rc_216_1 hR, rc_221_1 hR, rc_221_2 hR, rc_221_3 hR, rc_225_1 hR, rc_210_0 hR, rc_210_1 hR, rc_210_2 hR, rc_210_3 hR, rc_210_4 hR, rc_231_1 hR, rc_233_1 hR, rc_230_0 hR, rc_230_1 hR, rc_240_1 hR, gd_tt, oA_arr, px_obj_s, Option.bind_some, Option.map_some, Option.bind_none, eq_self, true_or, or_true, px_av_0, px_av_1, px_av_2, px_av_10, px_av_11, bn, wi_1, wi_2, wl_1, wl_21, wl_22, wr_1, wr_21, wr_22, Sum.elim_inl, Sum.elim_inr, ↓reduceIte, Nat.reduceLT, Nat.reduceLeDiff, not_false_eq_true, not_true_eq_false, Nat.reduceEqDiff, Nat.reduceAdd, reduceCtorEq, and_true, true_and, and_false, false_and, false_or, or_false, c_all ht, q1, w1]
  · obtain ⟨ψ, v1, v2⟩ := ma _ (mo_thr hm)
    have hmψ : mo ψ n B := mo_on (by decide) v2 (mo_thr hm)
    have lpm : ∃ ξ, f_94_13 tT 0 (nI C0) (nI 0) ψ = some (r, ξ) ∧ fr (on 16) ψ ξ := by
      unfold f_94_13
      obtain ⟨b, hb, ξ, rfl, w1⟩ := lp_rel (F := fun q : Int32 × px_M => F_94_13 tT 0 (nI C0) q.1 q.2) (fun j q => q.1 = nI j ∧ fr (on 16) ψ q.2 ∧ ∀ x, x < j → ¬ C x < C0) (fun b => ∃ ξ, b = (r, ξ) ∧ fr (on 16) ψ ξ) n (fun j q hj hI => by
        obtain ⟨x, ξ⟩ := q
        obtain ⟨hx, g1, g3⟩ := hI
        dsimp only at hx g1 g3
        subst hx
        have hmx := mo_on (by decide) g1 hmψ
        obtain ⟨hR, -, e1, -⟩ := id hmx
        by_cases hjn : j = n
        · right
          refine ⟨(-1, ξ), ?_, ξ, by rw [fo_none' (by rw [← hjn]; exact g3)], g1⟩
          simp (disch := omega) only [F_94_13, la_0, la_1, la_2, la_3, la_4, la_15, la_16, la_17, la_18, la_19, la_20, la_23, la_24, la_25, la_26, la_27, la_28, la_31, la_35, la_36, la_37, rm_0_1 hR, rm_0_2 hR, rm_0_3 hR, rm_0_4 hR, rm_0_15 hR, rm_0_16 hR, rm_0_17 hR, rm_0_18 hR, rm_0_19 hR, rm_0_20 hR, rm_0_23 hR, rm_0_24 hR, rm_0_25 hR, rm_0_26 hR, rm_0_27 hR, rm_0_28 hR, rm_0_31 hR, rm_0_35 hR, rm_0_36 hR, rm_0_37 hR, gd_tt, oA_arr, px_obj_s, Option.bind_some, Option.map_some, Option.bind_none, eq_self, true_or, or_true, px_av_0, px_av_1, px_av_2, px_av_10, px_av_11, bn, wi_1, wi_2, wl_1, wl_21, wl_22, wr_1, wr_21, wr_22, Sum.elim_inl, Sum.elim_inr, ↓reduceIte, Nat.reduceLT, Nat.reduceLeDiff, not_false_eq_true, not_true_eq_false, Nat.reduceEqDiff, Nat.reduceAdd, reduceCtorEq, and_true, true_and, and_false, false_and, false_or, or_false, true_and, and_true, ni_divL, ni_subL, nI_add, pk_mul, nI_leI, nI_ltI, nI_eq, vp_in_eq, nI_clamp, ↓ni_tst, ni_tst2, fa_and, fa_or, ni_bit1, ni_1s, nI_l, mb_eq0, mb_ne0, mb_eq1, gd_tt, gd_t, bft, e1]
          rw [if_pos (by omega)]
        · obtain ⟨ζ, w1, w2⟩ := mb' j ξ (by omega) hmx
          have c1 := h1 j
          have hF : F_94_13 tT 0 (nI C0) (nI j) ξ = if C0 ≤ C j then some (.inl (nI (j + 1), ζ)) else some (.inr (nI j, ζ)) := by
            simp (disch := omega) only [F_94_13, la_0, la_1, la_2, la_3, la_4, la_15, la_16, la_17, la_18, la_19, la_20, la_23, la_24, la_25, la_26, la_27, la_28, la_31, la_35, la_36, la_37, rm_0_1 hR, rm_0_2 hR, rm_0_3 hR, rm_0_4 hR, rm_0_15 hR, rm_0_16 hR, rm_0_17 hR, rm_0_18 hR, rm_0_19 hR, rm_0_20 hR, rm_0_23 hR, rm_0_24 hR, rm_0_25 hR, rm_0_26 hR, rm_0_27 hR, rm_0_28 hR, rm_0_31 hR, rm_0_35 hR, rm_0_36 hR, rm_0_37 hR, w1, gd_tt, oA_arr, px_obj_s, Option.bind_some, Option.map_some, Option.bind_none, eq_self, true_or, or_true, px_av_0, px_av_1, px_av_2, px_av_10, px_av_11, bn, wi_1, wi_2, wl_1, wl_21, wl_22, wr_1, wr_21, wr_22, Sum.elim_inl, Sum.elim_inr, ↓reduceIte, Nat.reduceLT, Nat.reduceLeDiff, not_false_eq_true, not_true_eq_false, Nat.reduceEqDiff, Nat.reduceAdd, reduceCtorEq, and_true, true_and, and_false, false_and, false_or, or_false, true_and, and_true, ni_divL, ni_subL, nI_add, pk_mul, nI_leI, nI_ltI, nI_eq, vp_in_eq, nI_clamp, ↓ni_tst, ni_tst2, fa_and, fa_or, ni_bit1, ni_1s, nI_l, mb_eq0, mb_ne0, mb_eq1, gd_tt, gd_t, bft, e1]
            rw [if_neg (by omega)]
          by_cases hlt : C j < C0
          · right
            exact ⟨(nI j, ζ), by rw [hF, if_neg (by omega)], ζ, by rw [fo_tail j (by omega) g3 hlt], fr_tr g1 w2⟩
          · left
            refine ⟨(nI (j + 1), ζ), by rw [hF, if_pos (by omega)], by omega, rfl, fr_tr g1 w2, fun x hx => ?_⟩
            by_cases hxj : x = j
            · subst hxj; exact hlt
            · exact g3 x (by omega)) 0 (nI 0, ψ) (by omega) ⟨rfl, fr_rf _ _, fun x hx => absurd hx (by omega)⟩
      exact ⟨ξ, hb, w1⟩
    obtain ⟨ξ, x1, x2⟩ := lpm
    refine ⟨ξ, ?_, fr_tr (fr_thr (fr_rf _ _)) (fr_tr (SM_16 v2) (SM_16 x2))⟩
    simp only [f_94, la_0, gd_tt, oA_arr, px_obj_s, Option.bind_some, Option.map_some, Option.bind_none, eq_self, true_or, or_true, px_av_0, px_av_1, px_av_2, px_av_10, px_av_11, bn, wi_1, wi_2, wl_1, wl_21, wl_22, wr_1, wr_21, wr_22, Sum.elim_inl, Sum.elim_inr, ↓reduceIte, Nat.reduceLT, Nat.reduceLeDiff, not_false_eq_true, not_true_eq_false, Nat.reduceEqDiff, Nat.reduceAdd, reduceCtorEq, and_true, true_and, and_false, false_and, false_or, or_false, v1, x1]
theorem a_dear (hc : cl σ n B) : agI σ (f_12034 tT σ 100) (fun τ => f_94 tT τ 0) n B := by
  have hn := hc.2.2.2.2.1.1
  have hal : 2 ^ n - 1 < 2 ^ n := by have := Nat.two_pow_pos n; omega
  refine dear_core hc (chi n B (2 ^ n - 1)) (fun j => chi n B (nd (2 ^ n - 1) (2 ^ j))) chi_le (fun _ => chi_le) (fun σ h => ?_) (fun j σ hj h => ?_) (fun σ h => ?_) (fun j σ hj h => ?_)
  · obtain ⟨υ, q1, q2, -, q4⟩ := c_few170 h hal
    exact ⟨υ, q1, q2, q4⟩
  · obtain ⟨υ, q1, q2, -, q4⟩ := c_few170 h (Nat.lt_of_le_of_lt Nat.and_le_left hal)
    exact ⟨υ, q1, q2, q4⟩
  · obtain ⟨υ, q1, q2, -⟩ := e_fewest h (bt_all hn)
    exact ⟨υ, q1, q2⟩
  · obtain ⟨υ, q1, q2, -⟩ := e_fewest h (bt_but hn hj)
    exact ⟨υ, q1, q2⟩
end
