/-! pay; houses that come and go -/
section
variable {σ τ : px_M} {t n : Nat} {B : Nat → Nat}
/-- what a house has of its doors, ahead of what they cost -/
def wth (n : Nat) (B : Nat → Nat) (h : Nat) : Nat := 10 * bc 11 (B h) + 4 * bc 11 (ly B n h 2)
theorem e_payOf (hm : mo σ n B) {h : Nat} (hh : h < n) (c : Nat) : ∃ υ, f_119 tT σ 0 (nI h) (nI c) = some (nI (wth n B h) - nI (c * bc 11 (B h)), υ) ∧ fr (on 15) σ υ := by
  have hw := hm.2.1
  have hn := hw.1
  obtain ⟨υ, q1, q2⟩ := e_twoAway hm hh
  have hB := wf_2048 hw h
  have hl := ly_lt (show h < 11 by omega) (fun j (_ : j < n) => wf_2048 hw j) 2
  refine ⟨υ, ?_, q2⟩
  simp only [f_119, f_119_9, la_0, gd_tt, oA_arr, px_obj_s, Option.bind_some, Option.map_some, Option.bind_none, eq_self, true_or, or_true, px_av_0, px_av_1, px_av_2, px_av_10, px_av_11, bn, wi_1, wi_2, wl_1, wl_21, wl_22, wr_1, wr_21, wr_22, Sum.elim_inl, Sum.elim_inr, ↓reduceIte, Nat.reduceLT, Nat.reduceLeDiff, not_false_eq_true, not_true_eq_false, Nat.reduceEqDiff, Nat.reduceAdd, reduceCtorEq, and_true, true_and, and_false, false_and, false_or, or_false, e_near hm (show h < 11 by omega), e_bitsOf _ (show B h < 2 ^ 31 by omega), q1, e_bitsOf _ (show ly B n h 2 < 2 ^ 31 by omega), pk_mul, nI_add]
  rfl
theorem c_worth (hc : ct σ t n B) {m h : Nat} (hh : h < n) : f_7003 tT σ m t (nI h) = some (nI (wth n B h)) := by
  have hw := hc.2.2.2.1
  have hl := ly_lt (show h < 11 by have := hw.1; omega) (fun j (_ : j < n) => wf_2048 hw j) 2
  simp only [f_7003, hc.1, gd_tt, oA_arr, px_obj_s, Option.bind_some, Option.map_some, Option.bind_none, eq_self, true_or, or_true, px_av_0, px_av_1, px_av_2, px_av_10, px_av_11, bn, wi_1, wi_2, wl_1, wl_21, wl_22, wr_1, wr_21, wr_22, Sum.elim_inl, Sum.elim_inr, ↓reduceIte, Nat.reduceLT, Nat.reduceLeDiff, not_false_eq_true, not_true_eq_false, Nat.reduceEqDiff, Nat.reduceAdd, reduceCtorEq, and_true, true_and, and_false, false_and, false_or, or_false, c_doorsOf hc hh, c_twoSteps hc hh, e_bitCount _ hl, pk_mul, nI_add]
  rfl
theorem c_isCost (σ : px_M) (v : Int32) : f_12058 tT σ v = some (mb (decide (0 ≤ v.toInt ∧ v.toInt ≤ 99))) := by
  unfold f_12058
  by_cases h1 : v < nI 0
  · rw [if_pos h1, decide_eq_false (by rw [fa_lt, nI_toInt (by omega)] at h1; omega)]; rfl
  · rw [if_neg h1]
    rw [fa_lt, nI_toInt (by omega)] at h1
    by_cases h2 : nI 99 < v
    · rw [if_pos h2, decide_eq_false (by rw [fa_lt, nI_toInt (by omega)] at h2; omega)]; rfl
    · rw [if_neg h2, decide_eq_true (by rw [fa_lt, nI_toInt (by omega)] at h2; omega)]; rfl
theorem a_pay (hc : cl σ n B) (v w : Int32) : agQ (f_12045 tT σ 100 v w) (fun τ => f_120 tT τ 0 v w) n B := by
  obtain ⟨hR, ht⟩ := hc
  have hw := ht.2.2.2.1
  have hn := hw.1
  rcases hs_cases v hn with ⟨h, hh, rfl⟩ | hno
  · have hco := c_isCost σ w
    rcases rg_cases w 0 99 (by omega) with ⟨c, -, hc99, rfl⟩ | hno
    · rw [nI_toInt (by omega), decide_eq_true (by omega), mb_t1] at hco
      refine ⟨nI (wth n B h) - nI (c * bc 11 (B h)), ?_, fun τ hm => ?_⟩
      · simp only [f_12045, f_12045_27, la_100, la_102, la_103, la_104, la_105, la_110, la_111, la_112, la_113, la_114, la_115, la_116, la_117, la_120, la_121, la_122, la_123, la_124, la_125, la_126, la_127, la_130, la_131, la_132, la_133, la_134, la_135, la_136, la_137, la_140, la_141, la_142, la_143, la_144, la_145, la_146, la_147, la_150, la_151, la_152, la_153, la_160, la_161, la_170, la_171, la_172, la_173, la_174, la_180, la_181, la_182, la_183, la_184, la_185, la_186, la_190, la_191, la_192, la_193, la_194, la_195, la_200, la_201, la_202, la_210, la_211, la_212, la_213, la_214, la_215, la_216, la_217, la_218, la_219, la_220, la_221, la_222, la_223, la_224, la_225, la_226, la_230, la_231, la_232, la_233, la_234, la_240, la_241, rc_100_0 hR, rc_100_1 hR, rc_100_2 hR, rc_100_3 hR, rc_100_4 hR, rc_100_5 hR, rc_100_6 hR, rc_100_7 hR, rc_100_8 hR, rc_100_9 hR, rc_100_10 hR, rc_100_11 hR, rc_100_12 hR, rc_100_13 hR, rc_100_14 hR, rc_100_15 hR, rc_111_1 hR, rc_113_1 hR, rc_113_2 hR, rc_113_3 hR, rc_110_0 hR, rc_110_1 hR, rc_110_5 hR, rc_121_1 hR, rc_123_1 hR, rc_123_2 hR, rc_123_3 hR, rc_120_0 hR, rc_120_1 hR, rc_120_5 hR, rc_131_1 hR, rc_133_1 hR, rc_133_2 hR, rc_133_3 hR, rc_130_0 hR, rc_130_1 hR, rc_130_5 hR, rc_141_1 hR, rc_143_1 hR, rc_143_2 hR, rc_143_3 hR, rc_140_0 hR, rc_140_1 hR, rc_140_5 hR, rc_150_3 hR, rc_150_4 hR, rc_150_5 hR, rc_150_6 hR, rc_160_0 hR, rc_173_1 hR, rc_170_0 hR, rc_170_1 hR, rc_181_0 hR, rc_185_1 hR, rc_180_0 hR, rc_180_1 hR, rc_180_2 hR, rc_192_1 hR, rc_194_1 hR, rc_190_0 hR, rc_201_1 hR, rc_200_0 hR, rc_214_1 hR, rc_211_0 hR, rc_211_1 hR, rc_216_1 hR, rc_221_1 hR, rc_221_2 hR, rc_221_3 hR, rc_225_1 hR, rc_210_0 hR, rc_210_1 hR, rc_210_2 hR, rc_210_3 hR, rc_210_4 hR, rc_231_1 hR, rc_233_1 hR, rc_230_0 hR, rc_230_1 hR, rc_240_1 hR, gd_tt, oA_arr, px_obj_s, Option.bind_some, Option.map_some, Option.bind_none, eq_self, true_or, or_true, px_av_0, px_av_1, px_av_2, px_av_10, px_av_11, bn, wi_1, wi_2, wl_1, wl_21, wl_22, wr_1, wr_21, wr_22, Sum.elim_inl, Sum.elim_inr, ↓reduceIte, Nat.reduceLT, Nat.reduceLeDiff, not_false_eq_true, not_true_eq_false, Nat.reduceEqDiff, Nat.reduceAdd, reduceCtorEq, and_true, true_and, and_false, false_and, false_or, or_false, c_hasI ht hh, hco, n10, c_worth ht hh, c_doorsOf ht hh, pk_mul]
      · have hm0 := mo_thr hm
        obtain ⟨υ, q1, q2⟩ := e_payOf hm0 hh c
        refine ⟨υ, ?_, fr_tr (fr_thr (fr_rf _ _)) (fr_15 q2)⟩
        have hk := e_withinN (px_wi τ 0 0 (nI 0)) (nI c) (lo := 0) (hi := 99) (by omega) (by omega)
        rw [nI_toInt (by omega), decide_eq_true (by omega), mb_t1] at hk
        simp only [f_120, f_120_29, la_0, gd_tt, oA_arr, px_obj_s, Option.bind_some, Option.map_some, Option.bind_none, eq_self, true_or, or_true, px_av_0, px_av_1, px_av_2, px_av_10, px_av_11, bn, wi_1, wi_2, wl_1, wl_21, wl_22, wr_1, wr_21, wr_22, Sum.elim_inl, Sum.elim_inr, ↓reduceIte, Nat.reduceLT, Nat.reduceLeDiff, not_false_eq_true, not_true_eq_false, Nat.reduceEqDiff, Nat.reduceAdd, reduceCtorEq, and_true, true_and, and_false, false_and, false_or, or_false, e_hs hm0 hh, hk, q1, n10]
    · have hno' : ¬ (0 ≤ w.toInt ∧ w.toInt ≤ 99) := fun q => hno (by simpa using q)
      rw [decide_eq_false hno', mb_f0] at hco
      refine ⟨-3, ?_, fun τ hm => ⟨px_wi τ 0 0 (nI 0), ?_, fr_thr (fr_rf _ _)⟩⟩
      · simp only [f_12045, f_12045_24, la_100, la_102, la_103, la_104, la_105, la_110, la_111, la_112, la_113, la_114, la_115, la_116, la_117, la_120, la_121, la_122, la_123, la_124, la_125, la_126, la_127, la_130, la_131, la_132, la_133, la_134, la_135, la_136, la_137, la_140, la_141, la_142, la_143, la_144, la_145, la_146, la_147, la_150, la_151, la_152, la_153, la_160, la_161, la_170, la_171, la_172, la_173, la_174, la_180, la_181, la_182, la_183, la_184, la_185, la_186, la_190, la_191, la_192, la_193, la_194, la_195, la_200, la_201, la_202, la_210, la_211, la_212, la_213, la_214, la_215, la_216, la_217, la_218, la_219, la_220, la_221, la_222, la_223, la_224, la_225, la_226, la_230, la_231, la_232, la_233, la_234, la_240, la_241, rc_100_0 hR, rc_100_1 hR, rc_100_2 hR, rc_100_3 hR, rc_100_4 hR, rc_100_5 hR, rc_100_6 hR, rc_100_7 hR, rc_100_8 hR, rc_100_9 hR, rc_100_10 hR, rc_100_11 hR, rc_100_12 hR, rc_100_13 hR, rc_100_14 hR, rc_100_15 hR, rc_111_1 hR, rc_113_1 hR, rc_113_2 hR, rc_113_3 hR, rc_110_0 hR, rc_110_1 hR, rc_110_5 hR, rc_121_1 hR, rc_123_1 hR, rc_123_2 hR, rc_123_3 hR, rc_120_0 hR, rc_120_1 hR, rc_120_5 hR, rc_131_1 hR, rc_133_1 hR, rc_133_2 hR, rc_133_3 hR, rc_130_0 hR, rc_130_1 hR, rc_130_5 hR, rc_141_1 hR, rc_143_1 hR, rc_143_2 hR, rc_143_3 hR, rc_140_0 hR, rc_140_1 hR, rc_140_5 hR, rc_150_3 hR, rc_150_4 hR, rc_150_5 hR, rc_150_6 hR, rc_160_0 hR, rc_173_1 hR, rc_170_0 hR, rc_170_1 hR, rc_181_0 hR, rc_185_1 hR, rc_180_0 hR, rc_180_1 hR, rc_180_2 hR, rc_192_1 hR, rc_194_1 hR, rc_190_0 hR, rc_201_1 hR, rc_200_0 hR, rc_214_1 hR, rc_211_0 hR, rc_211_1 hR, rc_216_1 hR, rc_221_1 hR, rc_221_2 hR, rc_221_3 hR, rc_225_1 hR, rc_210_0 hR, rc_210_1 hR, rc_210_2 hR, rc_210_3 hR, rc_210_4 hR, rc_231_1 hR, rc_233_1 hR, rc_230_0 hR, rc_230_1 hR, rc_240_1 hR, gd_tt, oA_arr, px_obj_s, Option.bind_some, Option.map_some, Option.bind_none, eq_self, true_or, or_true, px_av_0, px_av_1, px_av_2, px_av_10, px_av_11, bn, wi_1, wi_2, wl_1, wl_21, wl_22, wr_1, wr_21, wr_22, Sum.elim_inl, Sum.elim_inr, ↓reduceIte, Nat.reduceLT, Nat.reduceLeDiff, not_false_eq_true, not_true_eq_false, Nat.reduceEqDiff, Nat.reduceAdd, reduceCtorEq, and_true, true_and, and_false, false_and, false_or, or_false, c_hasI ht hh, n10, hco]
      · have hk := e_withinN (px_wi τ 0 0 (nI 0)) w (lo := 0) (hi := 99) (by omega) (by omega)
        rw [decide_eq_false hno, mb_f0] at hk
        simp only [f_120, f_120_38, la_0, gd_tt, oA_arr, px_obj_s, Option.bind_some, Option.map_some, Option.bind_none, eq_self, true_or, or_true, px_av_0, px_av_1, px_av_2, px_av_10, px_av_11, bn, wi_1, wi_2, wl_1, wl_21, wl_22, wr_1, wr_21, wr_22, Sum.elim_inl, Sum.elim_inr, ↓reduceIte, Nat.reduceLT, Nat.reduceLeDiff, not_false_eq_true, not_true_eq_false, Nat.reduceEqDiff, Nat.reduceAdd, reduceCtorEq, and_true, true_and, and_false, false_and, false_or, or_false, e_hs (mo_thr hm) hh, hk, n10]
  · refine ⟨-2, ?_, fun τ hm => ⟨px_wi τ 0 0 (nI 0), ?_, fr_thr (fr_rf _ _)⟩⟩
    · simp only [f_12045, la_100, la_102, la_103, la_104, la_105, la_110, la_111, la_112, la_113, la_114, la_115, la_116, la_117, la_120, la_121, la_122, la_123, la_124, la_125, la_126, la_127, la_130, la_131, la_132, la_133, la_134, la_135, la_136, la_137, la_140, la_141, la_142, la_143, la_144, la_145, la_146, la_147, la_150, la_151, la_152, la_153, la_160, la_161, la_170, la_171, la_172, la_173, la_174, la_180, la_181, la_182, la_183, la_184, la_185, la_186, la_190, la_191, la_192, la_193, la_194, la_195, la_200, la_201, la_202, la_210, la_211, la_212, la_213, la_214, la_215, la_216, la_217, la_218, la_219, la_220, la_221, la_222, la_223, la_224, la_225, la_226, la_230, la_231, la_232, la_233, la_234, la_240, la_241, rc_100_0 hR, rc_100_1 hR, rc_100_2 hR, rc_100_3 hR, rc_100_4 hR, rc_100_5 hR, rc_100_6 hR, rc_100_7 hR, rc_100_8 hR, rc_100_9 hR, rc_100_10 hR, rc_100_11 hR, rc_100_12 hR, rc_100_13 hR, rc_100_14 hR, rc_100_15 hR, rc_111_1 hR, rc_113_1 hR, rc_113_2 hR, rc_113_3 hR, rc_110_0 hR, rc_110_1 hR, rc_110_5 hR, rc_121_1 hR, rc_123_1 hR, rc_123_2 hR, rc_123_3 hR, rc_120_0 hR, rc_120_1 hR, rc_120_5 hR, rc_131_1 hR, rc_133_1 hR, rc_133_2 hR, rc_133_3 hR, rc_130_0 hR, rc_130_1 hR, rc_130_5 hR, rc_141_1 hR, rc_143_1 hR, rc_143_2 hR, rc_143_3 hR, rc_140_0 hR, rc_140_1 hR, rc_140_5 hR, rc_150_3 hR, rc_150_4 hR, rc_150_5 hR, rc_150_6 hR, rc_160_0 hR, rc_173_1 hR, rc_170_0 hR, rc_170_1 hR, rc_181_0 hR, rc_185_1 hR, rc_180_0 hR, rc_180_1 hR, rc_180_2 hR, rc_192_1 hR, rc_194_1 hR, rc_190_0 hR, rc_201_1 hR, rc_200_0 hR, rc_214_1 hR, rc_211_0 hR, rc_211_1 hR, rc_216_1 hR, rc_221_1 hR, rc_221_2 hR, rc_221_3 hR, rc_225_1 hR, rc_210_0 hR, rc_210_1 hR, rc_210_2 hR, rc_210_3 hR, rc_210_4 hR, rc_231_1 hR, rc_233_1 hR, rc_230_0 hR, rc_230_1 hR, rc_240_1 hR, gd_tt, oA_arr, px_obj_s, Option.bind_some, Option.map_some, Option.bind_none, eq_self, true_or, or_true, px_av_0, px_av_1, px_av_2, px_av_10, px_av_11, bn, wi_1, wi_2, wl_1, wl_21, wl_22, wr_1, wr_21, wr_22, Sum.elim_inl, Sum.elim_inr, ↓reduceIte, Nat.reduceLT, Nat.reduceLeDiff, not_false_eq_true, not_true_eq_false, Nat.reduceEqDiff, Nat.reduceAdd, reduceCtorEq, and_true, true_and, and_false, false_and, false_or, or_false, c_has0 ht hno]
    · simp only [f_120, la_0, gd_tt, oA_arr, px_obj_s, Option.bind_some, Option.map_some, Option.bind_none, eq_self, true_or, or_true, px_av_0, px_av_1, px_av_2, px_av_10, px_av_11, bn, wi_1, wi_2, wl_1, wl_21, wl_22, wr_1, wr_21, wr_22, Sum.elim_inl, Sum.elim_inr, ↓reduceIte, Nat.reduceLT, Nat.reduceLeDiff, not_false_eq_true, not_true_eq_false, Nat.reduceEqDiff, Nat.reduceAdd, reduceCtorEq, and_true, true_and, and_false, false_and, false_or, or_false, e_hs0 (mo_thr hm) hno]
/-! a house comes, with some as neighbours -/
def ah (n : Nat) (B : Nat → Nat) (s : Nat) : Nat → Nat := fun x => if x = n then s else if s.testBit x then B x ||| 2 ^ n else B x
theorem ah_tb (hw : wf n B) {s : Nat} (hs : s < 2 ^ n) (x y : Nat) : (ah n B s x).testBit y = ((B x).testBit y || (decide (x = n) && s.testBit y) || (decide (y = n) && s.testBit x)) := by
  unfold ah
  by_cases hx : x = n
  · subst hx
    have h0 : (B x).testBit y = false := by rw [hw.2.2.1 x (Nat.le_refl _)]; simp
    have h1 : s.testBit x = false := tb_ff (tb_lt hs) (Nat.le_refl _)
    simp [h0, h1]
  · rw [if_neg hx]
    cases h1 : s.testBit x
    · simp [hx]
    · rw [if_pos rfl, Nat.testBit_or, Nat.testBit_two_pow]
      have : decide (n = y) = decide (y = n) := decide_eq_decide.mpr eq_comm
      simp [hx, this]
theorem wf_up (hw : wf n B) (hn : n < 11) : wf (n + 1) B := wf_of (by omega) (fun a b h => by have := wf_l hw h; have := wf_r hw h; omega) hw.2.2.2.1 hw.2.2.2.2
theorem wf_ah (hw : wf n B) (hn : n < 11) {s : Nat} (hs : s < 2 ^ n) : wf (n + 1) (ah n B s) := wf_of (by omega) (fun a b h => by
    rw [ah_tb hw hs] at h
    simp only [Bool.or_eq_true, Bool.and_eq_true, decide_eq_true_eq] at h
    rcases h with (h | h) | h
    · have := wf_l hw h; have := wf_r hw h; omega
    · have := tb_lt hs h.2; omega
    · have := tb_lt hs h.2; omega) (fun a b => by
    rw [ah_tb hw hs, ah_tb hw hs, hw.2.2.2.1 a b]
    cases (B b).testBit a <;> cases (decide (a = n) && s.testBit b) <;> cases (decide (b = n) && s.testBit a) <;> rfl) (fun a => by
    rw [ah_tb hw hs, hw.2.2.2.2 a]
    by_cases h : a = n
    · subst h
      have h1 : s.testBit a = false := tb_ff (tb_lt hs) (Nat.le_refl _)
      simp [h1]
    · simp [h])
theorem ah_0 (hw : wf n B) : ah n B 0 = B := by
  funext x
  apply Nat.eq_of_testBit_eq
  intro y
  rw [ah_tb hw (Nat.two_pow_pos n)]
  simp
theorem bs_S (p : Nat → Bool) (j : Nat) : bs p (j + 1) = bs p j ||| (if p j then 2 ^ j else 0) := rfl
theorem bs_2n (p : Nat → Bool) {j m : Nat} (h : j ≤ m) : bs p j < 2 ^ m := lt_tb (fun i hi => by
  rw [bs_tb] at hi
  simp only [Bool.and_eq_true, decide_eq_true_eq] at hi
  omega)
theorem jn_ah (hw : wf n B) {s k : Nat} (hs : s < 2 ^ n) (hk : k < n) : jn (ah n B s) n k = ah n B (s ||| 2 ^ k) := by
  have hs2 : s ||| 2 ^ k < 2 ^ n := Nat.or_lt_two_pow hs (Nat.pow_lt_pow_right (by omega) hk)
  funext x
  apply Nat.eq_of_testBit_eq
  intro y
  rw [jn_tb (by omega), ah_tb hw hs, ah_tb hw hs2, Nat.testBit_or, Nat.testBit_or, Nat.testBit_two_pow, Nat.testBit_two_pow]
  by_cases hx : x = n
  · subst hx
    have h1 : ¬ k = x := by omega
    have h2 : ¬ x = k := by omega
    by_cases hy : y = k
    · subst hy; simp [h1, h2]
    · have h3 : ¬ k = y := fun q => hy q.symm
      simp [h1, h2, hy, h3]
  · by_cases hy : y = n
    · subst hy
      by_cases hxk : x = k
      · subst hxk; simp [hx]
      · have h3 : ¬ k = x := fun q => hxk q.symm
        simp [hx, hxk, h3]
    · simp [hx, hy]
theorem e_enters (hm : mo σ n B) (hn : n < 11) {s : Nat} (hs : s < 2 ^ n) : ∃ υ, f_64 tT σ 0 (nI s) = some υ ∧ fr tn σ υ ∧ mo υ (n + 1) (ah n B s) := by
  obtain ⟨hR, hw, e1, hnb⟩ := id hm
  have hp := pw_le (Nat.le_of_lt hn)
  have lp : ∀ ρ, fr tn σ ρ → mo ρ (n + 1) B → ∃ υ, f_64_28 tT 0 (nI s) (nI n) (nI 0) ρ = some υ ∧ fr tn σ υ ∧ mo υ (n + 1) (ah n B s) := by
    intro ρ hf hm1
    unfold f_64_28
    have hsb : bs (fun i => s.testBit i) n = s := bs_eq (fun i _ => rfl) (fun i hi => tb_ff (tb_lt hs) hi)
    obtain ⟨b, hb, h1, h2⟩ := lp_for (F := fun q : Int32 × px_M => F_64_28 tT 0 (nI s) (nI n) q.1 q.2) (fun j q => q.1 = nI j ∧ fr tn σ q.2 ∧ mo q.2 (n + 1) (ah n B (bs (fun i => s.testBit i) j))) (fun b => fr tn σ b ∧ mo b (n + 1) (ah n B (bs (fun i => s.testBit i) n))) n (fun j q hj hI => by
      obtain ⟨x, υ⟩ := q
      obtain ⟨hx, g1, g2⟩ := hI
      dsimp only at hx g1 g2
      subst hx
      have hR := g2.1
      have hbl : bs (fun i => s.testBit i) j < 2 ^ n := bs_2n _ (by omega)
      obtain ⟨ρ', q1, q2, q3⟩ := e_joins g2 (a := n) (b := j) (by omega) (by omega) (by omega)
      rw [jn_ah hw hbl hj] at q3
      cases hb : s.testBit j
      · refine ⟨(nI (j + 1), υ), ?_, rfl, g1, ?_⟩
        · simp (disch := omega) only [F_64_28, f_64_51, gd_tt, oA_arr, px_obj_s, Option.bind_some, Option.map_some, Option.bind_none, eq_self, true_or, or_true, px_av_0, px_av_1, px_av_2, px_av_10, px_av_11, bn, wi_1, wi_2, wl_1, wl_21, wl_22, wr_1, wr_21, wr_22, Sum.elim_inl, Sum.elim_inr, ↓reduceIte, Nat.reduceLT, Nat.reduceLeDiff, not_false_eq_true, not_true_eq_false, Nat.reduceEqDiff, Nat.reduceAdd, reduceCtorEq, and_true, true_and, and_false, false_and, false_or, or_false, true_and, and_true, ni_divL, ni_subL, nI_add, pk_mul, nI_leI, nI_ltI, nI_eq, vp_in_eq, nI_clamp, ↓ni_tst, ni_tst2, fa_and, fa_or, ni_bit1, ni_1s, nI_l, mb_eq0, mb_ne0, mb_eq1, gd_tt, gd_t, bft, e_isIn, hb]
          rw [if_neg (by omega)]
        · rw [bs_S, if_neg (by simp [hb]), Nat.or_zero]; exact g2
      · refine ⟨(nI (j + 1), ρ'), ?_, rfl, fr_tr g1 q2, ?_⟩
        · simp (disch := omega) only [F_64_28, f_64_51, la_0, la_1, la_2, la_3, la_4, la_15, la_16, la_17, la_18, la_19, la_20, la_23, la_24, la_25, la_26, la_27, la_28, la_31, la_35, la_36, la_37, rm_0_1 hR, rm_0_2 hR, rm_0_3 hR, rm_0_4 hR, rm_0_15 hR, rm_0_16 hR, rm_0_17 hR, rm_0_18 hR, rm_0_19 hR, rm_0_20 hR, rm_0_23 hR, rm_0_24 hR, rm_0_25 hR, rm_0_26 hR, rm_0_27 hR, rm_0_28 hR, rm_0_31 hR, rm_0_35 hR, rm_0_36 hR, rm_0_37 hR, q1, gd_tt, oA_arr, px_obj_s, Option.bind_some, Option.map_some, Option.bind_none, eq_self, true_or, or_true, px_av_0, px_av_1, px_av_2, px_av_10, px_av_11, bn, wi_1, wi_2, wl_1, wl_21, wl_22, wr_1, wr_21, wr_22, Sum.elim_inl, Sum.elim_inr, ↓reduceIte, Nat.reduceLT, Nat.reduceLeDiff, not_false_eq_true, not_true_eq_false, Nat.reduceEqDiff, Nat.reduceAdd, reduceCtorEq, and_true, true_and, and_false, false_and, false_or, or_false, true_and, and_true, ni_divL, ni_subL, nI_add, pk_mul, nI_leI, nI_ltI, nI_eq, vp_in_eq, nI_clamp, ↓ni_tst, ni_tst2, fa_and, fa_or, ni_bit1, ni_1s, nI_l, mb_eq0, mb_ne0, mb_eq1, gd_tt, gd_t, bft, e_isIn, hb]
          rw [if_neg (by omega)]
        · rw [bs_S, if_pos (by simp [hb])]; exact q3) (fun q hI => by
      obtain ⟨x, υ⟩ := q
      obtain ⟨hx, g1, g2⟩ := hI
      dsimp only at hx g1 g2
      subst hx
      refine ⟨υ, ?_, g1, g2⟩
      simp (disch := omega) only [F_64_28, gd_tt, oA_arr, px_obj_s, Option.bind_some, Option.map_some, Option.bind_none, eq_self, true_or, or_true, px_av_0, px_av_1, px_av_2, px_av_10, px_av_11, bn, wi_1, wi_2, wl_1, wl_21, wl_22, wr_1, wr_21, wr_22, Sum.elim_inl, Sum.elim_inr, ↓reduceIte, Nat.reduceLT, Nat.reduceLeDiff, not_false_eq_true, not_true_eq_false, Nat.reduceEqDiff, Nat.reduceAdd, reduceCtorEq, and_true, true_and, and_false, false_and, false_or, or_false, true_and, and_true, ni_divL, ni_subL, nI_add, pk_mul, nI_leI, nI_ltI, nI_eq, vp_in_eq, nI_clamp, ↓ni_tst, ni_tst2, fa_and, fa_or, ni_bit1, ni_1s, nI_l, mb_eq0, mb_ne0, mb_eq1, gd_tt, gd_t, bft]
      rw [if_pos (by omega)]) 0 (nI 0, ρ) (by omega) ⟨rfl, hf, by rw [show bs (fun i => s.testBit i) 0 = 0 from rfl, ah_0 hw]; exact hm1⟩
    rw [hsb] at h2
    exact ⟨b, hb, h1, h2⟩
  have h0 : B n = 0 := hw.2.2.1 n (Nat.le_refl _)
  obtain ⟨υ, q1, q2, q3⟩ := lp (px_wi (px_wi σ 1 1 (nI (n + 1))) 1 (2 + n) (nI 0)) (fr_wi (fr_wi (fr_rf _ _) _ (tn_t (by omega) (by omega))) _ (tn_t (by omega) (by omega))) ⟨hR, wf_up hw hn, by
    show px_up (px_up σ.1 1 1 _) 1 (2 + n) _ 1 1 = _
    rw [up_s, if_neg (by omega)]; exact px_up_s _ _ _ _, fun h hh => by
    show px_up (px_up σ.1 1 1 _) 1 (2 + n) _ 1 (2 + h) = _
    rw [up_s, up_s, hnb h hh]
    by_cases hhn : h = n
    · subst hhn; rw [if_pos rfl, h0]
    · rw [if_neg (by omega), if_neg (by omega)]⟩
  refine ⟨υ, ?_, q2, q3⟩
  simp (disch := omega) only [f_64, la_0, la_1, la_2, la_3, la_4, la_15, la_16, la_17, la_18, la_19, la_20, la_23, la_24, la_25, la_26, la_27, la_28, la_31, la_35, la_36, la_37, rm_0_1 hR, rm_0_2 hR, rm_0_3 hR, rm_0_4 hR, rm_0_15 hR, rm_0_16 hR, rm_0_17 hR, rm_0_18 hR, rm_0_19 hR, rm_0_20 hR, rm_0_23 hR, rm_0_24 hR, rm_0_25 hR, rm_0_26 hR, rm_0_27 hR, rm_0_28 hR, rm_0_31 hR, rm_0_35 hR, rm_0_36 hR, rm_0_37 hR, gd_tt, oA_arr, px_obj_s, Option.bind_some, Option.map_some, Option.bind_none, eq_self, true_or, or_true, px_av_0, px_av_1, px_av_2, px_av_10, px_av_11, bn, wi_1, wi_2, wl_1, wl_21, wl_22, wr_1, wr_21, wr_22, Sum.elim_inl, Sum.elim_inr, ↓reduceIte, Nat.reduceLT, Nat.reduceLeDiff, not_false_eq_true, not_true_eq_false, Nat.reduceEqDiff, Nat.reduceAdd, reduceCtorEq, and_true, true_and, and_false, false_and, false_or, or_false, true_and, and_true, ni_divL, ni_subL, nI_add, pk_mul, nI_leI, nI_ltI, nI_eq, vp_in_eq, nI_clamp, ↓ni_tst, ni_tst2, fa_and, fa_or, ni_bit1, ni_1s, nI_l, mb_eq0, mb_ne0, mb_eq1, gd_tt, gd_t, bft, e1]
  exact q1
theorem c_addHouse (hc : ct σ t n B) (hn : n < 11) {s : Nat} (hs : s < 2 ^ n) : ∃ υ, f_11011 tT σ t (nI s) = some υ ∧ fr (tw2 t) σ υ ∧ ct υ t (n + 1) (ah n B s) := by
  obtain ⟨l1, l2, hr, hw, h1, hnb⟩ := id hc
  have hp := pw_le (Nat.le_of_lt hn)
  have lp : ∀ ρ, fr (tw2 t) σ ρ → ct ρ t (n + 1) B → ∃ υ, f_11011_27 tT t (nI s) (nI n) (nI 0) ρ = some υ ∧ fr (tw2 t) σ υ ∧ ct υ t (n + 1) (ah n B s) := by
    intro ρ hf hm1
    unfold f_11011_27
    have hsb : bs (fun i => s.testBit i) n = s := bs_eq (fun i _ => rfl) (fun i hi => tb_ff (tb_lt hs) hi)
    obtain ⟨b, hb, h1, h2⟩ := lp_for (F := fun q : Int32 × px_M => F_11011_27 tT t (nI s) (nI n) q.1 q.2) (fun j q => q.1 = nI j ∧ fr (tw2 t) σ q.2 ∧ ct q.2 t (n + 1) (ah n B (bs (fun i => s.testBit i) j))) (fun b => fr (tw2 t) σ b ∧ ct b t (n + 1) (ah n B (bs (fun i => s.testBit i) n))) n (fun j q hj hI => by
      obtain ⟨x, υ⟩ := q
      obtain ⟨hx, g1, g2⟩ := hI
      dsimp only at hx g1 g2
      subst hx
      have hbl : bs (fun i => s.testBit i) j < 2 ^ n := bs_2n _ (by omega)
      obtain ⟨ρ', q1, q2, q3⟩ := c_link g2 (a := j) (b := n) (by omega) (by omega) (by omega)
      rw [jn_comm (by omega), jn_ah hw hbl hj] at q3
      cases hb : s.testBit j
      · refine ⟨(nI (j + 1), υ), ?_, rfl, g1, ?_⟩
        · simp (disch := omega) only [F_11011_27, f_11011_46, gd_tt, oA_arr, px_obj_s, Option.bind_some, Option.map_some, Option.bind_none, eq_self, true_or, or_true, px_av_0, px_av_1, px_av_2, px_av_10, px_av_11, bn, wi_1, wi_2, wl_1, wl_21, wl_22, wr_1, wr_21, wr_22, Sum.elim_inl, Sum.elim_inr, ↓reduceIte, Nat.reduceLT, Nat.reduceLeDiff, not_false_eq_true, not_true_eq_false, Nat.reduceEqDiff, Nat.reduceAdd, reduceCtorEq, and_true, true_and, and_false, false_and, false_or, or_false, true_and, and_true, ni_divL, ni_subL, nI_add, pk_mul, nI_leI, nI_ltI, nI_eq, vp_in_eq, nI_clamp, ↓ni_tst, ni_tst2, fa_and, fa_or, ni_bit1, ni_1s, nI_l, mb_eq0, mb_ne0, mb_eq1, gd_tt, gd_t, bft, hb]
          rw [if_neg (by omega)]
        · rw [bs_S, if_neg (by simp [hb]), Nat.or_zero]; exact g2
      · refine ⟨(nI (j + 1), ρ'), ?_, rfl, fr_tr g1 q2, ?_⟩
        · simp (disch := omega) only [F_11011_27, f_11011_46, l1, q1, gd_tt, oA_arr, px_obj_s, Option.bind_some, Option.map_some, Option.bind_none, eq_self, true_or, or_true, px_av_0, px_av_1, px_av_2, px_av_10, px_av_11, bn, wi_1, wi_2, wl_1, wl_21, wl_22, wr_1, wr_21, wr_22, Sum.elim_inl, Sum.elim_inr, ↓reduceIte, Nat.reduceLT, Nat.reduceLeDiff, not_false_eq_true, not_true_eq_false, Nat.reduceEqDiff, Nat.reduceAdd, reduceCtorEq, and_true, true_and, and_false, false_and, false_or, or_false, true_and, and_true, ni_divL, ni_subL, nI_add, pk_mul, nI_leI, nI_ltI, nI_eq, vp_in_eq, nI_clamp, ↓ni_tst, ni_tst2, fa_and, fa_or, ni_bit1, ni_1s, nI_l, mb_eq0, mb_ne0, mb_eq1, gd_tt, gd_t, bft, hb]
          rw [if_neg (by omega)]
        · rw [bs_S, if_pos (by simp [hb])]; exact q3) (fun q hI => by
      obtain ⟨x, υ⟩ := q
      obtain ⟨hx, g1, g2⟩ := hI
      dsimp only at hx g1 g2
      subst hx
      refine ⟨υ, ?_, g1, g2⟩
      simp (disch := omega) only [F_11011_27, gd_tt, oA_arr, px_obj_s, Option.bind_some, Option.map_some, Option.bind_none, eq_self, true_or, or_true, px_av_0, px_av_1, px_av_2, px_av_10, px_av_11, bn, wi_1, wi_2, wl_1, wl_21, wl_22, wr_1, wr_21, wr_22, Sum.elim_inl, Sum.elim_inr, ↓reduceIte, Nat.reduceLT, Nat.reduceLeDiff, not_false_eq_true, not_true_eq_false, Nat.reduceEqDiff, Nat.reduceAdd, reduceCtorEq, and_true, true_and, and_false, false_and, false_or, or_false, true_and, and_true, ni_divL, ni_subL, nI_add, pk_mul, nI_leI, nI_ltI, nI_eq, vp_in_eq, nI_clamp, ↓ni_tst, ni_tst2, fa_and, fa_or, ni_bit1, ni_1s, nI_l, mb_eq0, mb_ne0, mb_eq1, gd_tt, gd_t, bft]
      rw [if_pos (by omega)]) 0 (nI 0, ρ) (by omega) ⟨rfl, hf, by rw [show bs (fun i => s.testBit i) 0 = 0 from rfl, ah_0 hw]; exact hm1⟩
    rw [hsb] at h2
    exact ⟨b, hb, h1, h2⟩
  obtain ⟨υ, q1, q2, q3⟩ := lp (px_wi σ t 0 (nI (n + 1))) (fr_wi (fr_rf _ _) _ (tw2_0 t _)) ⟨l1, l2, hr, wf_up hw hn, px_up_s _ _ _ _, fun h hh => by
    show px_up σ.1 t 0 _ (t + 1) h = _
    rw [px_up_row (by omega)]; exact hnb h hh⟩
  refine ⟨υ, ?_, q2, q3⟩
  simp (disch := omega) only [f_11011, l1, h1, gd_tt, oA_arr, px_obj_s, Option.bind_some, Option.map_some, Option.bind_none, eq_self, true_or, or_true, px_av_0, px_av_1, px_av_2, px_av_10, px_av_11, bn, wi_1, wi_2, wl_1, wl_21, wl_22, wr_1, wr_21, wr_22, Sum.elim_inl, Sum.elim_inr, ↓reduceIte, Nat.reduceLT, Nat.reduceLeDiff, not_false_eq_true, not_true_eq_false, Nat.reduceEqDiff, Nat.reduceAdd, reduceCtorEq, and_true, true_and, and_false, false_and, false_or, or_false, true_and, and_true, ni_divL, ni_subL, nI_add, pk_mul, nI_leI, nI_ltI, nI_eq, vp_in_eq, nI_clamp, ↓ni_tst, ni_tst2, fa_and, fa_or, ni_bit1, ni_1s, nI_l, mb_eq0, mb_ne0, mb_eq1, gd_tt, gd_t, bft]
  rw [if_pos (by omega)]
  exact q1
/-! a house goes -/
def sk1 (h x : Nat) : Nat := if x < h then x else x + 1
/-- a set of houses without one, those behind it a number less -/
def wot (s h : Nat) : Nat := bs (fun y => s.testBit (sk1 h y)) 11
theorem wot_tb {s h : Nat} (hs : s < 2048) (y : Nat) : (wot s h).testBit y = s.testBit (sk1 h y) := by
  unfold wot
  rw [bs_tb]
  by_cases hy : y < 11
  · simp [hy]
  · have : s.testBit (sk1 h y) = false := tb_big hs (by unfold sk1; split <;> omega)
    simp [hy, this]
theorem wot_lt (s h : Nat) : wot s h < 2048 := bs_lt (Nat.le_refl _)
theorem bt_mask {h i : Nat} (hi : i < 32) : bt (nI (2 ^ h - 1)) i = decide (i < h) := by
  rw [bt_nI, Nat.testBit_two_pow_sub_one]
  simp [hi]
theorem ni_wotM {s h : Nat} (hs : s < 2048) (hh : h < 11) : (nI s &&& nI (2 ^ h - 1)) ||| ((nI s >>> (nI (h + 1) &&& 31)) <<< (nI h &&& 31)) = nI (wot s h) := by
  apply b_ext
  intro i hi
  rw [b_or, b_and, bt_mask hi, b_shl h (by omega) _ hi, bt_nI, bt_nI, wot_tb hs]
  unfold sk1
  by_cases h1 : i < h
  · simp [hi, h1, show ¬ h ≤ i by omega]
  · rw [b_sshr (h + 1) (by omega) _ (show i - h < 32 by omega), bt_nI, bt_nI, show h + 1 + (i - h) = i + 1 by omega]
    have h31 : s.testBit 31 = false := tb_big hs (by omega)
    by_cases h2 : i + 1 < 32
    · simp [hi, h1, show h ≤ i by omega, h2]
    · have : s.testBit (i + 1) = false := tb_big hs (by omega)
      simp [hi, h1, show h ≤ i by omega, h2, h31, this]
theorem ni_wotC {s h : Nat} (hs : s < 2048) (hh : h < 11) : (nI s &&& nI (2 ^ h - 1)) ||| (((nI s).toUInt32 >>> ((nI 1).toUInt32 &&& Int32.toUInt32 31)).toInt32 &&& (nI (2 ^ h - 1) ^^^ (-1))) = nI (wot s h) := by
  apply b_ext
  intro i hi
  rw [b_or, b_and, b_and, b_xor, b_m1 i hi, bt_mask hi, b_ushr 1 (by omega), bt_nI, bt_nI, bt_nI, wot_tb hs]
  unfold sk1
  by_cases h1 : i < h
  · simp [hi, h1]
  · rw [show 1 + i = i + 1 by omega]
    by_cases h2 : i + 1 < 32
    · simp [hi, h1, h2]
    · have : s.testBit (i + 1) = false := tb_big hs (by omega)
      simp [hi, h1, this]
def dp (n : Nat) (B : Nat → Nat) (h : Nat) : Nat → Nat := fun x => if x + 1 < n then wot (B (sk1 h x)) h else 0
theorem dp_tb (hw : wf n B) {h : Nat} (hh : h < n) (x y : Nat) : (dp n B h x).testBit y = (B (sk1 h x)).testBit (sk1 h y) := by
  unfold dp
  by_cases hx : x + 1 < n
  · rw [if_pos hx, wot_tb (wf_2048 hw _)]
  · rw [if_neg hx, hw.2.2.1 (sk1 h x) (by unfold sk1; split <;> omega)]
    simp
theorem wf_dp (hw : wf n B) {h : Nat} (hh : h < n) : wf (n - 1) (dp n B h) := wf_of (by have := hw.1; omega) (fun a b q => by
    rw [dp_tb hw hh] at q
    have h1 := wf_l hw q
    have h2 := wf_r hw q
    unfold sk1 at h1 h2
    constructor
    · split at h1 <;> omega
    · split at h2 <;> omega) (fun a b => by rw [dp_tb hw hh, dp_tb hw hh, hw.2.2.2.1]) (fun a => by rw [dp_tb hw hh, hw.2.2.2.2])
theorem e_without (σ : px_M) {s h : Nat} (hs : s < 2048) (hh : h < 11) : f_67 tT σ (nI s) (nI h) = some (nI (wot s h)) := by
  unfold f_67
  rw [nI_add, ni_1s (by omega), ni_subL Nat.one_le_two_pow, ni_wotM hs hh]
theorem e_leaves (hm : mo σ n B) {h : Nat} (hh : h < n) : ∃ υ, f_68 tT σ 0 (nI h) = some υ ∧ fr tn σ υ ∧ mo υ (n - 1) (dp n B h) := by
  obtain ⟨hR, hw, e1, hnb⟩ := id hm
  have hn := hw.1
  have hlt := wf_2048 hw
  -- the rows without the house
  have lp2 : ∀ ρ, fr tn σ ρ → ρ.1 1 1 = nI (n - 1) → (∀ x, x + 1 < n → ρ.1 1 (2 + x) = nI (B (sk1 h x))) → (∀ x, n ≤ x + 1 → x < 11 → ρ.1 1 (2 + x) = nI 0) → ∃ υ, f_68_64 tT 0 (nI h) (nI 0) ρ = some υ ∧ fr tn σ υ ∧ mo υ (n - 1) (dp n B h) := by
    intro ρ hf h1 h2 h3
    unfold f_68_64
    exact lp_for (F := fun q : Int32 × px_M => F_68_64 tT 0 (nI h) q.1 q.2) (fun j q => q.1 = nI j ∧ fr tn σ q.2 ∧ q.2.1 1 1 = nI (n - 1) ∧ (∀ x, x < j → q.2.1 1 (2 + x) = nI (wot (B (sk1 h x)) h)) ∧ (∀ x, j ≤ x → x + 1 < n → q.2.1 1 (2 + x) = nI (B (sk1 h x))) ∧ ∀ x, n ≤ x + 1 → x < 11 → q.2.1 1 (2 + x) = nI 0) (fun b => fr tn σ b ∧ mo b (n - 1) (dp n B h)) (n - 1) (fun j q hj hI => by
      obtain ⟨x, υ⟩ := q
      obtain ⟨hx, g1, g2, g3, g4, g5⟩ := hI
      dsimp only at hx g1 g2 g3 g4 g5
      subst hx
      have hR := mR_fr g1 hR
      have hj4 := g4 j (Nat.le_refl _) (by omega)
      have hBl := hlt (sk1 h j)
      have hnear : f_31 tT υ 0 (nI j) = some (nI (B (sk1 h j))) := by
        simp (disch := omega) only [f_31, la_0, la_1, la_2, la_3, la_4, la_15, la_16, la_17, la_18, la_19, la_20, la_23, la_24, la_25, la_26, la_27, la_28, la_31, la_35, la_36, la_37, rm_0_1 hR, rm_0_2 hR, rm_0_3 hR, rm_0_4 hR, rm_0_15 hR, rm_0_16 hR, rm_0_17 hR, rm_0_18 hR, rm_0_19 hR, rm_0_20 hR, rm_0_23 hR, rm_0_24 hR, rm_0_25 hR, rm_0_26 hR, rm_0_27 hR, rm_0_28 hR, rm_0_31 hR, rm_0_35 hR, rm_0_36 hR, rm_0_37 hR, gd_tt, oA_arr, px_obj_s, Option.bind_some, Option.map_some, Option.bind_none, eq_self, true_or, or_true, px_av_0, px_av_1, px_av_2, px_av_10, px_av_11, bn, wi_1, wi_2, wl_1, wl_21, wl_22, wr_1, wr_21, wr_22, Sum.elim_inl, Sum.elim_inr, ↓reduceIte, Nat.reduceLT, Nat.reduceLeDiff, not_false_eq_true, not_true_eq_false, Nat.reduceEqDiff, Nat.reduceAdd, reduceCtorEq, and_true, true_and, and_false, false_and, false_or, or_false, true_and, and_true, ni_divL, ni_subL, nI_add, pk_mul, nI_leI, nI_ltI, nI_eq, vp_in_eq, nI_clamp, ↓ni_tst, ni_tst2, fa_and, fa_or, ni_bit1, ni_1s, nI_l, mb_eq0, mb_ne0, mb_eq1, gd_tt, gd_t, bft, hj4]
      refine ⟨(nI (j + 1), px_wi υ 1 (2 + j) (nI (wot (B (sk1 h j)) h))), ?_, rfl, fr_wi g1 _ (tn_t (by omega) (by omega)), ?_, fun y hy => ?_, fun y hy hy2 => ?_, fun y hy hy2 => ?_⟩
      · simp (disch := omega) only [F_68_64, la_0, la_1, la_2, la_3, la_4, la_15, la_16, la_17, la_18, la_19, la_20, la_23, la_24, la_25, la_26, la_27, la_28, la_31, la_35, la_36, la_37, rm_0_1 hR, rm_0_2 hR, rm_0_3 hR, rm_0_4 hR, rm_0_15 hR, rm_0_16 hR, rm_0_17 hR, rm_0_18 hR, rm_0_19 hR, rm_0_20 hR, rm_0_23 hR, rm_0_24 hR, rm_0_25 hR, rm_0_26 hR, rm_0_27 hR, rm_0_28 hR, rm_0_31 hR, rm_0_35 hR, rm_0_36 hR, rm_0_37 hR, hnear, gd_tt, oA_arr, px_obj_s, Option.bind_some, Option.map_some, Option.bind_none, eq_self, true_or, or_true, px_av_0, px_av_1, px_av_2, px_av_10, px_av_11, bn, wi_1, wi_2, wl_1, wl_21, wl_22, wr_1, wr_21, wr_22, Sum.elim_inl, Sum.elim_inr, ↓reduceIte, Nat.reduceLT, Nat.reduceLeDiff, not_false_eq_true, not_true_eq_false, Nat.reduceEqDiff, Nat.reduceAdd, reduceCtorEq, and_true, true_and, and_false, false_and, false_or, or_false, true_and, and_true, ni_divL, ni_subL, nI_add, pk_mul, nI_leI, nI_ltI, nI_eq, vp_in_eq, nI_clamp, ↓ni_tst, ni_tst2, fa_and, fa_or, ni_bit1, ni_1s, nI_l, mb_eq0, mb_ne0, mb_eq1, gd_tt, gd_t, bft, g2, e_without]
        rw [if_neg (by omega)]
      · show px_up υ.1 1 (2 + j) _ 1 1 = _
        rw [up_s, if_neg (by omega)]; exact g2
      · show px_up υ.1 1 (2 + j) _ 1 (2 + y) = _
        rw [up_s]
        by_cases hyj : y = j
        · subst hyj; rw [if_pos rfl]
        · rw [if_neg (by omega)]; exact g3 y (by omega)
      · show px_up υ.1 1 (2 + j) _ 1 (2 + y) = _
        rw [up_s, if_neg (by omega)]; exact g4 y (by omega) hy2
      · show px_up υ.1 1 (2 + j) _ 1 (2 + y) = _
        rw [up_s, if_neg (by omega)]; exact g5 y hy hy2) (fun q hI => by
      obtain ⟨x, υ⟩ := q
      obtain ⟨hx, g1, g2, g3, g4, g5⟩ := hI
      dsimp only at hx g1 g2 g3 g4 g5
      subst hx
      have hR := mR_fr g1 hR
      refine ⟨υ, ?_, g1, hR, wf_dp hw hh, g2, fun y hy => ?_⟩
      · simp (disch := omega) only [F_68_64, la_0, la_1, la_2, la_3, la_4, la_15, la_16, la_17, la_18, la_19, la_20, la_23, la_24, la_25, la_26, la_27, la_28, la_31, la_35, la_36, la_37, rm_0_1 hR, rm_0_2 hR, rm_0_3 hR, rm_0_4 hR, rm_0_15 hR, rm_0_16 hR, rm_0_17 hR, rm_0_18 hR, rm_0_19 hR, rm_0_20 hR, rm_0_23 hR, rm_0_24 hR, rm_0_25 hR, rm_0_26 hR, rm_0_27 hR, rm_0_28 hR, rm_0_31 hR, rm_0_35 hR, rm_0_36 hR, rm_0_37 hR, gd_tt, oA_arr, px_obj_s, Option.bind_some, Option.map_some, Option.bind_none, eq_self, true_or, or_true, px_av_0, px_av_1, px_av_2, px_av_10, px_av_11, bn, wi_1, wi_2, wl_1, wl_21, wl_22, wr_1, wr_21, wr_22, Sum.elim_inl, Sum.elim_inr, ↓reduceIte, Nat.reduceLT, Nat.reduceLeDiff, not_false_eq_true, not_true_eq_false, Nat.reduceEqDiff, Nat.reduceAdd, reduceCtorEq, and_true, true_and, and_false, false_and, false_or, or_false, true_and, and_true, ni_divL, ni_subL, nI_add, pk_mul, nI_leI, nI_ltI, nI_eq, vp_in_eq, nI_clamp, ↓ni_tst, ni_tst2, fa_and, fa_or, ni_bit1, ni_1s, nI_l, mb_eq0, mb_ne0, mb_eq1, gd_tt, gd_t, bft, g2]
        rw [if_pos (by omega)]
      · unfold dp
        by_cases hy2 : y + 1 < n
        · rw [if_pos hy2]; exact g3 y (by omega)
        · rw [if_neg hy2]; exact g5 y (by omega) hy) 0 (nI 0, ρ) (by omega) ⟨rfl, hf, h1, fun x hx => absurd hx (by omega), fun x _ hx => h2 x hx, h3⟩
  unfold f_68 f_68_2
  obtain ⟨b, hb, h1, h2⟩ := lp_for (F := fun q : Int32 × px_M => F_68_2 tT 0 (nI h) q.1 q.2) (fun j q => q.1 = nI (h + j) ∧ fr tn σ q.2 ∧ q.2.1 1 1 = nI n ∧ (∀ x, x < h + j → x < 11 → q.2.1 1 (2 + x) = nI (B (sk1 h x))) ∧ (∀ x, h + j ≤ x → x < 11 → q.2.1 1 (2 + x) = nI (B x))) (fun b => fr tn σ b ∧ mo b (n - 1) (dp n B h)) (n - 1 - h) (fun j q hj hI => by
    obtain ⟨x, υ⟩ := q
    obtain ⟨hx, g1, g2, g3, g4⟩ := hI
    dsimp only at hx g1 g2 g3 g4
    subst hx
    have hR := mR_fr g1 hR
    have hj4 := g4 (h + j + 1) (by omega) (by omega)
    rw [show 2 + (h + j + 1) = 2 + (h + j) + 1 by omega] at hj4
    refine ⟨(nI (h + (j + 1)), px_wi υ 1 (2 + (h + j)) (nI (B (h + j + 1)))), ?_, rfl, fr_wi g1 _ (tn_t (by omega) (by omega)), ?_, fun y hy hy2 => ?_, fun y hy hy2 => ?_⟩
    · simp (disch := omega) only [F_68_2, la_0, la_1, la_2, la_3, la_4, la_15, la_16, la_17, la_18, la_19, la_20, la_23, la_24, la_25, la_26, la_27, la_28, la_31, la_35, la_36, la_37, rm_0_1 hR, rm_0_2 hR, rm_0_3 hR, rm_0_4 hR, rm_0_15 hR, rm_0_16 hR, rm_0_17 hR, rm_0_18 hR, rm_0_19 hR, rm_0_20 hR, rm_0_23 hR, rm_0_24 hR, rm_0_25 hR, rm_0_26 hR, rm_0_27 hR, rm_0_28 hR, rm_0_31 hR, rm_0_35 hR, rm_0_36 hR, rm_0_37 hR, gd_tt, oA_arr, px_obj_s, Option.bind_some, Option.map_some, Option.bind_none, eq_self, true_or, or_true, px_av_0, px_av_1, px_av_2, px_av_10, px_av_11, bn, wi_1, wi_2, wl_1, wl_21, wl_22, wr_1, wr_21, wr_22, Sum.elim_inl, Sum.elim_inr, ↓reduceIte, Nat.reduceLT, Nat.reduceLeDiff, not_false_eq_true, not_true_eq_false, Nat.reduceEqDiff, Nat.reduceAdd, reduceCtorEq, and_true, true_and, and_false, false_and, false_or, or_false, true_and, and_true, ni_divL, ni_subL, nI_add, pk_mul, nI_leI, nI_ltI, nI_eq, vp_in_eq, nI_clamp, ↓ni_tst, ni_tst2, fa_and, fa_or, ni_bit1, ni_1s, nI_l, mb_eq0, mb_ne0, mb_eq1, gd_tt, gd_t, bft, g2, hj4]
      rw [if_neg (by omega)]
      rfl
    · show px_up υ.1 1 (2 + (h + j)) _ 1 1 = _
      rw [up_s, if_neg (by omega)]; exact g2
    · show px_up υ.1 1 (2 + (h + j)) _ 1 (2 + y) = _
      rw [up_s]
      by_cases hyj : y = h + j
      · subst hyj; rw [if_pos rfl]; unfold sk1; rw [if_neg (by omega)]
      · rw [if_neg (by omega)]; exact g3 y (by omega) hy2
    · show px_up υ.1 1 (2 + (h + j)) _ 1 (2 + y) = _
      rw [up_s, if_neg (by omega)]; exact g4 y (by omega) hy2) (fun q hI => by
    obtain ⟨x, υ⟩ := q
    obtain ⟨hx, g1, g2, g3, g4⟩ := hI
    dsimp only at hx g1 g2 g3 g4
    subst hx
    have hR := mR_fr g1 hR
    obtain ⟨ρ, q1, q2, q3⟩ := lp2 (px_wi (px_wi υ 1 1 (nI (n - 1))) 1 (2 + (n - 1)) (nI 0)) (fr_wi (fr_wi g1 _ (tn_t (by omega) (by omega))) _ (tn_t (by omega) (by omega))) (by
      show px_up (px_up υ.1 1 1 _) 1 (2 + (n - 1)) _ 1 1 = _
      rw [up_s, if_neg (by omega)]; exact px_up_s _ _ _ _) (fun y hy => by
      show px_up (px_up υ.1 1 1 _) 1 (2 + (n - 1)) _ 1 (2 + y) = _
      rw [up_s, if_neg (by omega), up_s, if_neg (by omega)]; exact g3 y (by omega) (by omega)) (fun y hy hy2 => by
      show px_up (px_up υ.1 1 1 _) 1 (2 + (n - 1)) _ 1 (2 + y) = _
      rw [up_s, up_s]
      by_cases hyn : y = n - 1
      · rw [if_pos (by omega)]
      · rw [if_neg (by omega), if_neg (by omega), g4 y (by omega) hy2, hw.2.2.1 y (by omega)])
    refine ⟨ρ, ?_, q2, q3⟩
    have hne : ¬ (1 : Nat) = 2 + (n - 1) := by omega
    simp (disch := omega) only [F_68_2, la_0, la_1, la_2, la_3, la_4, la_15, la_16, la_17, la_18, la_19, la_20, la_23, la_24, la_25, la_26, la_27, la_28, la_31, la_35, la_36, la_37, rm_0_1 hR, rm_0_2 hR, rm_0_3 hR, rm_0_4 hR, rm_0_15 hR, rm_0_16 hR, rm_0_17 hR, rm_0_18 hR, rm_0_19 hR, rm_0_20 hR, rm_0_23 hR, rm_0_24 hR, rm_0_25 hR, rm_0_26 hR, rm_0_27 hR, rm_0_28 hR, rm_0_31 hR, rm_0_35 hR, rm_0_36 hR, rm_0_37 hR, gd_tt, oA_arr, px_obj_s, Option.bind_some, Option.map_some, Option.bind_none, eq_self, true_or, or_true, px_av_0, px_av_1, px_av_2, px_av_10, px_av_11, bn, wi_1, wi_2, wl_1, wl_21, wl_22, wr_1, wr_21, wr_22, Sum.elim_inl, Sum.elim_inr, ↓reduceIte, Nat.reduceLT, Nat.reduceLeDiff, not_false_eq_true, not_true_eq_false, Nat.reduceEqDiff, Nat.reduceAdd, reduceCtorEq, and_true, true_and, and_false, false_and, false_or, or_false, true_and, and_true, ni_divL, ni_subL, nI_add, pk_mul, nI_leI, nI_ltI, nI_eq, vp_in_eq, nI_clamp, ↓ni_tst, ni_tst2, fa_and, fa_or, ni_bit1, ni_1s, nI_l, mb_eq0, mb_ne0, mb_eq1, gd_tt, gd_t, bft, g2, up_s, px_up_s]
    rw [if_pos (by omega), q1]
    rfl) 0 (nI h, σ) (by omega) ⟨rfl, fr_rf _ _, e1, fun x hx hx2 => by
      unfold sk1
      rw [if_pos (by omega)]; exact hnb x hx2, fun x _ hx => hnb x hx⟩
  exact ⟨b, hb, h1, h2⟩
theorem c_drop (hc : ct σ t n B) {h : Nat} (hh : h < n) : ∃ υ, f_11012 tT σ t (nI h) = some υ ∧ fr (tw2 t) σ υ ∧ ct υ t (n - 1) (dp n B h) := by
  have hhas := c_hasI hc hh
  obtain ⟨l1, l2, hr, hw, e1, hnb⟩ := id hc
  have hn := hw.1
  have hlt := wf_2048 hw
  have hrf : ∀ υ, fr (tw2 t) σ υ → υ.2.2 t 1 = σ.2.2 t 1 → υ.2.2 t 1 = some (t + 1) := fun υ _ q => q.trans hr
  have lp2 : ∀ ρ, fr (tw2 t) σ ρ → ρ.2.2 t 1 = some (t + 1) → ρ.1 t 0 = nI (n - 1) → (∀ x, x + 1 < n → ρ.1 (t + 1) x = nI (B (sk1 h x))) → (∀ x, n ≤ x + 1 → x < 11 → ρ.1 (t + 1) x = nI 0) → ∃ υ, f_11012_69 tT t (nI (2 ^ h - 1)) (nI 0) ρ = some υ ∧ fr (tw2 t) σ υ ∧ ct υ t (n - 1) (dp n B h) := by
    intro ρ hf h0 h1 h2 h3
    unfold f_11012_69
    exact lp_for (F := fun q : Int32 × px_M => F_11012_69 tT t (nI (2 ^ h - 1)) q.1 q.2) (fun j q => q.1 = nI j ∧ fr (tw2 t) σ q.2 ∧ q.2.2.2 t 1 = some (t + 1) ∧ q.2.1 t 0 = nI (n - 1) ∧ (∀ x, x < j → q.2.1 (t + 1) x = nI (wot (B (sk1 h x)) h)) ∧ (∀ x, j ≤ x → x + 1 < n → q.2.1 (t + 1) x = nI (B (sk1 h x))) ∧ ∀ x, n ≤ x + 1 → x < 11 → q.2.1 (t + 1) x = nI 0) (fun b => fr (tw2 t) σ b ∧ ct b t (n - 1) (dp n B h)) (n - 1) (fun j q hj hI => by
      obtain ⟨x, υ⟩ := q
      obtain ⟨hx, g1, g0, g2, g3, g4, g5⟩ := hI
      dsimp only at hx g1 g0 g2 g3 g4 g5
      subst hx
      have hj4 := g4 j (Nat.le_refl _) (by omega)
      have hBl := hlt (sk1 h j)
      refine ⟨(nI (j + 1), px_wi υ (t + 1) j (nI (wot (B (sk1 h j)) h))), ?_, rfl, fr_wi g1 _ (tw2_1 t _), g0, ?_, fun y hy => ?_, fun y hy hy2 => ?_, fun y hy hy2 => ?_⟩
      · have hwc := ni_wotC hBl (show h < 11 by omega)
        simp only [F_11012_69, l1, l2, g0, g2, gd_tt, oA_arr, px_obj_s, Option.bind_some, Option.map_some, Option.bind_none, eq_self, true_or, or_true, px_av_0, px_av_1, px_av_2, px_av_10, px_av_11, bn, wi_1, wi_2, wl_1, wl_21, wl_22, wr_1, wr_21, wr_22, Sum.elim_inl, Sum.elim_inr, ↓reduceIte, Nat.reduceLT, Nat.reduceLeDiff, not_false_eq_true, not_true_eq_false, Nat.reduceEqDiff, Nat.reduceAdd, reduceCtorEq, and_true, true_and, and_false, false_and, false_or, or_false]
        rw [if_neg (by rw [nI_leI (by omega) (by omega)]; omega), nI_clamp (by omega), hj4, hwc, gd_t (by rw [vp_in_eq (by omega)]; omega), nI_add]
      · show px_up υ.1 (t + 1) j _ t 0 = _
        rw [px_up_row (by omega)]; exact g2
      · show px_up υ.1 (t + 1) j _ (t + 1) y = _
        rw [up_s]
        by_cases hyj : y = j
        · subst hyj; rw [if_pos rfl]
        · rw [if_neg (by omega)]; exact g3 y (by omega)
      · show px_up υ.1 (t + 1) j _ (t + 1) y = _
        rw [up_s, if_neg (by omega)]; exact g4 y (by omega) hy2
      · show px_up υ.1 (t + 1) j _ (t + 1) y = _
        rw [up_s, if_neg (by omega)]; exact g5 y hy hy2) (fun q hI => by
      obtain ⟨x, υ⟩ := q
      obtain ⟨hx, g1, g0, g2, g3, g4, g5⟩ := hI
      dsimp only at hx g1 g0 g2 g3 g4 g5
      subst hx
      refine ⟨υ, ?_, g1, l1, l2, g0, wf_dp hw hh, g2, fun y hy => ?_⟩
      · simp (disch := omega) only [F_11012_69, l1, g2, gd_tt, oA_arr, px_obj_s, Option.bind_some, Option.map_some, Option.bind_none, eq_self, true_or, or_true, px_av_0, px_av_1, px_av_2, px_av_10, px_av_11, bn, wi_1, wi_2, wl_1, wl_21, wl_22, wr_1, wr_21, wr_22, Sum.elim_inl, Sum.elim_inr, ↓reduceIte, Nat.reduceLT, Nat.reduceLeDiff, not_false_eq_true, not_true_eq_false, Nat.reduceEqDiff, Nat.reduceAdd, reduceCtorEq, and_true, true_and, and_false, false_and, false_or, or_false, true_and, and_true, ni_divL, ni_subL, nI_add, pk_mul, nI_leI, nI_ltI, nI_eq, vp_in_eq, nI_clamp, ↓ni_tst, ni_tst2, fa_and, fa_or, ni_bit1, ni_1s, nI_l, mb_eq0, mb_ne0, mb_eq1, gd_tt, gd_t, bft]
        rw [if_pos (by omega)]
      · unfold dp
        by_cases hy2 : y + 1 < n
        · rw [if_pos hy2]; exact g3 y (by omega)
        · rw [if_neg hy2]; exact g5 y (by omega) hy) 0 (nI 0, ρ) (by omega) ⟨rfl, hf, h0, h1, fun x hx => absurd hx (by omega), fun x _ hx => h2 x hx, h3⟩
  have lp1 : ∃ υ, f_11012_11 tT t (nI h) (nI h) σ = some υ ∧ fr (tw2 t) σ υ ∧ ct υ t (n - 1) (dp n B h) := by
    unfold f_11012_11
    obtain ⟨b, hb, h1, h2⟩ := lp_for (F := fun q : Int32 × px_M => F_11012_11 tT t (nI h) q.1 q.2) (fun j q => q.1 = nI (h + j) ∧ fr (tw2 t) σ q.2 ∧ q.2.2.2 t 1 = some (t + 1) ∧ q.2.1 t 0 = nI n ∧ (∀ x, x < h + j → x < 11 → q.2.1 (t + 1) x = nI (B (sk1 h x))) ∧ (∀ x, h + j ≤ x → x < 11 → q.2.1 (t + 1) x = nI (B x))) (fun b => fr (tw2 t) σ b ∧ ct b t (n - 1) (dp n B h)) (n - 1 - h) (fun j q hj hI => by
      obtain ⟨x, υ⟩ := q
      obtain ⟨hx, g1, g0, g2, g3, g4⟩ := hI
      dsimp only at hx g1 g0 g2 g3 g4
      subst hx
      have hj4 := g4 (h + j + 1) (by omega) (by omega)
      refine ⟨(nI (h + (j + 1)), px_wi υ (t + 1) (h + j) (nI (B (h + j + 1)))), ?_, rfl, fr_wi g1 _ (tw2_1 t _), g0, ?_, fun y hy hy2 => ?_, fun y hy hy2 => ?_⟩
      · simp (disch := omega) only [F_11012_11, l1, l2, g0, g2, gd_tt, oA_arr, px_obj_s, Option.bind_some, Option.map_some, Option.bind_none, eq_self, true_or, or_true, px_av_0, px_av_1, px_av_2, px_av_10, px_av_11, bn, wi_1, wi_2, wl_1, wl_21, wl_22, wr_1, wr_21, wr_22, Sum.elim_inl, Sum.elim_inr, ↓reduceIte, Nat.reduceLT, Nat.reduceLeDiff, not_false_eq_true, not_true_eq_false, Nat.reduceEqDiff, Nat.reduceAdd, reduceCtorEq, and_true, true_and, and_false, false_and, false_or, or_false, true_and, and_true, ni_divL, ni_subL, nI_add, pk_mul, nI_leI, nI_ltI, nI_eq, vp_in_eq, nI_clamp, ↓ni_tst, ni_tst2, fa_and, fa_or, ni_bit1, ni_1s, nI_l, mb_eq0, mb_ne0, mb_eq1, gd_tt, gd_t, bft, hj4]
        rw [if_neg (by omega)]
        rfl
      · show px_up υ.1 (t + 1) (h + j) _ t 0 = _
        rw [px_up_row (by omega)]; exact g2
      · show px_up υ.1 (t + 1) (h + j) _ (t + 1) y = _
        rw [up_s]
        by_cases hyj : y = h + j
        · subst hyj; rw [if_pos rfl]; unfold sk1; rw [if_neg (by omega)]
        · rw [if_neg (by omega)]; exact g3 y (by omega) hy2
      · show px_up υ.1 (t + 1) (h + j) _ (t + 1) y = _
        rw [up_s, if_neg (by omega)]; exact g4 y (by omega) hy2) (fun q hI => by
      obtain ⟨x, υ⟩ := q
      obtain ⟨hx, g1, g0, g2, g3, g4⟩ := hI
      dsimp only at hx g1 g0 g2 g3 g4
      subst hx
      obtain ⟨ρ, q1, q2, q3⟩ := lp2 (px_wi (px_wi υ t 0 (nI (n - 1))) (t + 1) (n - 1) (nI 0)) (fr_wi (fr_wi g1 _ (tw2_0 t _)) _ (tw2_1 t _)) g0 (by
        show px_up (px_up υ.1 t 0 _) (t + 1) (n - 1) _ t 0 = _
        rw [px_up_row (by omega)]; exact px_up_s _ _ _ _) (fun y hy => by
        show px_up (px_up υ.1 t 0 _) (t + 1) (n - 1) _ (t + 1) y = _
        rw [up_s, if_neg (by omega), px_up_row (by omega)]; exact g3 y (by omega) (by omega)) (fun y hy hy2 => by
        show px_up (px_up υ.1 t 0 _) (t + 1) (n - 1) _ (t + 1) y = _
        rw [up_s, px_up_row (by omega)]
        by_cases hyn : y = n - 1
        · rw [if_pos (by omega)]
        · rw [if_neg (by omega), g4 y (by omega) hy2, hw.2.2.1 y (by omega)])
      refine ⟨ρ, ?_, q2, q3⟩
      have hp1 : 1 ≤ 2 ^ h := Nat.one_le_two_pow
      simp (disch := omega) only [F_11012_11, f_11012_67, l1, l2, g0, g2, gd_tt, oA_arr, px_obj_s, Option.bind_some, Option.map_some, Option.bind_none, eq_self, true_or, or_true, px_av_0, px_av_1, px_av_2, px_av_10, px_av_11, bn, wi_1, wi_2, wl_1, wl_21, wl_22, wr_1, wr_21, wr_22, Sum.elim_inl, Sum.elim_inr, ↓reduceIte, Nat.reduceLT, Nat.reduceLeDiff, not_false_eq_true, not_true_eq_false, Nat.reduceEqDiff, Nat.reduceAdd, reduceCtorEq, and_true, true_and, and_false, false_and, false_or, or_false, true_and, and_true, ni_divL, ni_subL, nI_add, pk_mul, nI_leI, nI_ltI, nI_eq, vp_in_eq, nI_clamp, ↓ni_tst, ni_tst2, fa_and, fa_or, ni_bit1, ni_1s, nI_l, mb_eq0, mb_ne0, mb_eq1, gd_tt, gd_t, bft, px_up_s]
      rw [if_pos (by omega), q1]
      rfl) 0 (nI h, σ) (by omega) ⟨rfl, fr_rf _ _, hr, e1, fun x hx hx2 => by
        unfold sk1
        rw [if_pos (by omega)]; exact hnb x hx2, fun x _ hx => hnb x hx⟩
    exact ⟨b, hb, h1, h2⟩
  obtain ⟨υ, q1, q2, q3⟩ := lp1
  refine ⟨υ, ?_, q2, q3⟩
  simp only [f_11012, l1, hhas, gd_tt, oA_arr, px_obj_s, Option.bind_some, Option.map_some, Option.bind_none, eq_self, true_or, or_true, px_av_0, px_av_1, px_av_2, px_av_10, px_av_11, bn, wi_1, wi_2, wl_1, wl_21, wl_22, wr_1, wr_21, wr_22, Sum.elim_inl, Sum.elim_inr, ↓reduceIte, Nat.reduceLT, Nat.reduceLeDiff, not_false_eq_true, not_true_eq_false, Nat.reduceEqDiff, Nat.reduceAdd, reduceCtorEq, and_true, true_and, and_false, false_and, false_or, or_false, n10, q1]
end
