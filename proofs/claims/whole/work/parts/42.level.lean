/-! the levels on which the class counts ways -/
/-- a town of eleven on level l -/
def lvl (σ : px_M) (l : Nat) (A : Nat → Nat) : Prop := ∀ x, x < 11 → σ.1 172 (l * 11 + x) = nI (A x)
/-- friendships go both ways -/
def sy (A : Nat → Nat) : Prop := (∀ x, A x < 2048) ∧ (∀ x y, (A x).testBit y = true → (A y).testBit x = true) ∧ (∀ x, (A x).testBit x = false) ∧ ∀ x, 11 ≤ x → A x = 0
section
variable {σ τ : px_M} {l : Nat} {A : Nat → Nat}
theorem c_8010 (hR : cR σ.2.2) (h : lvl σ l A) (hl : l < 12) {x : Nat} (hx : x < 11) : f_8010 tT σ 170 (nI l) (nI x) = some (nI (A x)) := by
  have h1 := h x hx
  have h2 : l * 11 + x < 132 := by omega
  have h3 : ¬ 132 ≤ l * 11 + x := by omega
  simp (disch := omega) only [f_8010, f_8010_7, la_100, la_102, la_103, la_104, la_105, la_110, la_111, la_112, la_113, la_114, la_115, la_116, la_117, la_120, la_121, la_122, la_123, la_124, la_125, la_126, la_127, la_130, la_131, la_132, la_133, la_134, la_135, la_136, la_137, la_140, la_141, la_142, la_143, la_144, la_145, la_146, la_147, la_150, la_151, la_152, la_153, la_160, la_161, la_170, la_171, la_172, la_173, la_174, la_180, la_181, la_182, la_183, la_184, la_185, la_186, la_190, la_191, la_192, la_193, la_194, la_195, la_200, la_201, la_202, la_210, la_211, la_212, la_213, la_214, la_215, la_216, la_217, la_218, la_219, la_220, la_221, la_222, la_223, la_224, la_225, la_226, la_230, la_231, la_232, la_233, la_234, la_240, la_241, rc_170_1 hR, gd_tt, oA_arr, px_obj_s, Option.bind_some, Option.map_some, Option.bind_none, eq_self, true_or, or_true, px_av_0, px_av_1, px_av_2, px_av_10, px_av_11, bn, wi_1, wi_2, wl_1, wl_21, wl_22, wr_1, wr_21, wr_22, Sum.elim_inl, Sum.elim_inr, ↓reduceIte, Nat.reduceLT, Nat.reduceLeDiff, not_false_eq_true, not_true_eq_false, Nat.reduceEqDiff, Nat.reduceAdd, reduceCtorEq, and_true, true_and, and_false, false_and, false_or, or_false, true_and, and_true, ni_divL, ni_subL, nI_add, pk_mul, nI_leI, nI_ltI, nI_eq, vp_in_eq, nI_clamp, ↓ni_tst, ni_tst2, fa_and, fa_or, ni_bit1, ni_1s, nI_l, mb_eq0, mb_ne0, mb_eq1, gd_tt, gd_t, bft, h1, h2, h3]
  rw [if_neg (by omega), if_neg (by omega)]
theorem c_8011 (hR : cR σ.2.2) (hl : l < 12) {x a : Nat} (hx : x < 11) : f_8011 tT σ 170 (nI l) (nI x) (nI a) = some (px_wi σ 172 (l * 11 + x) (nI a)) := by
  have h2 : l * 11 + x < 132 := by omega
  have h3 : ¬ 132 ≤ l * 11 + x := by omega
  simp (disch := omega) only [f_8011, f_8011_8, la_100, la_102, la_103, la_104, la_105, la_110, la_111, la_112, la_113, la_114, la_115, la_116, la_117, la_120, la_121, la_122, la_123, la_124, la_125, la_126, la_127, la_130, la_131, la_132, la_133, la_134, la_135, la_136, la_137, la_140, la_141, la_142, la_143, la_144, la_145, la_146, la_147, la_150, la_151, la_152, la_153, la_160, la_161, la_170, la_171, la_172, la_173, la_174, la_180, la_181, la_182, la_183, la_184, la_185, la_186, la_190, la_191, la_192, la_193, la_194, la_195, la_200, la_201, la_202, la_210, la_211, la_212, la_213, la_214, la_215, la_216, la_217, la_218, la_219, la_220, la_221, la_222, la_223, la_224, la_225, la_226, la_230, la_231, la_232, la_233, la_234, la_240, la_241, rc_170_1 hR, gd_tt, oA_arr, px_obj_s, Option.bind_some, Option.map_some, Option.bind_none, eq_self, true_or, or_true, px_av_0, px_av_1, px_av_2, px_av_10, px_av_11, bn, wi_1, wi_2, wl_1, wl_21, wl_22, wr_1, wr_21, wr_22, Sum.elim_inl, Sum.elim_inr, ↓reduceIte, Nat.reduceLT, Nat.reduceLeDiff, not_false_eq_true, not_true_eq_false, Nat.reduceEqDiff, Nat.reduceAdd, reduceCtorEq, and_true, true_and, and_false, false_and, false_or, or_false, true_and, and_true, ni_divL, ni_subL, nI_add, pk_mul, nI_leI, nI_ltI, nI_eq, vp_in_eq, nI_clamp, ↓ni_tst, ni_tst2, fa_and, fa_or, ni_bit1, ni_1s, nI_l, mb_eq0, mb_ne0, mb_eq1, gd_tt, gd_t, bft, h2, h3]
  rw [if_neg (by omega), if_neg (by omega)]
/-- two of N who are strangers, or none -/
theorem c_8013 (hR : cR σ.2.2) (h : lvl σ l A) (hl : l < 12) {N : Nat} (hN : N < 2048) : ∃ r, f_8013 tT σ 170 (nI l) (nI N) = some r ∧ ((r = -1 ∧ ∀ x y, x < 11 → y < 11 → x < y → N.testBit x = true → N.testBit y = true → (A x).testBit y = true) ∨ ∃ u v, u < v ∧ v < 11 ∧ N.testBit u = true ∧ N.testBit v = true ∧ (A u).testBit v = false ∧ r = nI (11 * u + v)) := by
  unfold f_8013 f_8013_2
  refine lp_rel (F := fun q : Int32 => F_8013_2 tT σ 170 (nI l) (nI N) q) (fun j q => q = nI j ∧ ∀ x y, x < j → y < 11 → x < y → N.testBit x = true → N.testBit y = true → (A x).testBit y = true) (fun r => (r = -1 ∧ ∀ x y, x < 11 → y < 11 → x < y → N.testBit x = true → N.testBit y = true → (A x).testBit y = true) ∨ ∃ u v, u < v ∧ v < 11 ∧ N.testBit u = true ∧ N.testBit v = true ∧ (A u).testBit v = false ∧ r = nI (11 * u + v)) 11 (fun j q hj hI => ?_) 0 (nI 0) (by omega) ⟨rfl, fun x y hx => absurd hx (by omega)⟩
  obtain ⟨rfl, g⟩ := hI
  by_cases hj11 : j = 11
  · right
    refine ⟨-1, ?_, Or.inl ⟨rfl, fun x y hx => g x y (by omega)⟩⟩
    simp (disch := omega) only [F_8013_2, gd_tt, oA_arr, px_obj_s, Option.bind_some, Option.map_some, Option.bind_none, eq_self, true_or, or_true, px_av_0, px_av_1, px_av_2, px_av_10, px_av_11, bn, wi_1, wi_2, wl_1, wl_21, wl_22, wr_1, wr_21, wr_22, Sum.elim_inl, Sum.elim_inr, ↓reduceIte, Nat.reduceLT, Nat.reduceLeDiff, not_false_eq_true, not_true_eq_false, Nat.reduceEqDiff, Nat.reduceAdd, reduceCtorEq, and_true, true_and, and_false, false_and, false_or, or_false, true_and, and_true, ni_divL, ni_subL, nI_add, pk_mul, nI_leI, nI_ltI, nI_eq, vp_in_eq, nI_clamp, ↓ni_tst, ni_tst2, fa_and, fa_or, ni_bit1, ni_1s, nI_l, mb_eq0, mb_ne0, mb_eq1, gd_tt, gd_t, bft]
    rw [if_pos (by omega)]
  · have hjl : j < 11 := by omega
    have hj2 : ¬ 11 ≤ j := by omega
    cases hb : N.testBit j with
    | false =>
      left
      refine ⟨nI (j + 1), ?_, by omega, rfl, fun x y hx hy hxy hNx hNy => ?_⟩
      · simp (disch := omega) only [F_8013_2, gd_tt, oA_arr, px_obj_s, Option.bind_some, Option.map_some, Option.bind_none, eq_self, true_or, or_true, px_av_0, px_av_1, px_av_2, px_av_10, px_av_11, bn, wi_1, wi_2, wl_1, wl_21, wl_22, wr_1, wr_21, wr_22, Sum.elim_inl, Sum.elim_inr, ↓reduceIte, Nat.reduceLT, Nat.reduceLeDiff, not_false_eq_true, not_true_eq_false, Nat.reduceEqDiff, Nat.reduceAdd, reduceCtorEq, and_true, true_and, and_false, false_and, false_or, or_false, true_and, and_true, ni_divL, ni_subL, nI_add, pk_mul, nI_leI, nI_ltI, nI_eq, vp_in_eq, nI_clamp, ↓ni_tst, ni_tst2, fa_and, fa_or, ni_bit1, ni_1s, nI_l, mb_eq0, mb_ne0, mb_eq1, gd_tt, gd_t, bft, hb, hj2]
      · by_cases hxj : x = j
        · subst hxj; rw [hb] at hNx; cases hNx
        · exact g x y (by omega) hy hxy hNx hNy
    | true =>
      have k1 := c_8010 hR h hl hjl
      obtain ⟨Z, hZ⟩ : ∃ Z, Z = ab j (nd N (A j)) := ⟨_, rfl⟩
      have hnd : nd N (A j) < 2048 := nd_lt hN
      have hZ2 : Z < 2048 := by rw [hZ]; exact ab_lt hnd
      have hZt : ∀ y, Z.testBit y = true ↔ j < y ∧ N.testBit y = true ∧ (A j).testBit y = false := fun y => by
        rw [hZ, ab_tb hnd, nd_tb hN]
        cases N.testBit y <;> cases (A j).testBit y <;> simp
      have eZ : (nI N &&& (nI (A j) ^^^ (-1))) &&& ((-2 : Int32) <<< (nI j &&& 31)) = nI Z := by
        rw [ni_nd hN, ni_ab hnd (by omega), hZ]
      have inner : ∃ b, f_8013_41 tT σ 170 (nI l) (nI N) (nI j) (nI Z) (nI (j + 1)) = some b ∧ ((b = .inl (nI (j + 1)) ∧ ∀ y, y < 11 → Z.testBit y = false) ∨ ∃ v, v < 11 ∧ Z.testBit v = true ∧ b = .inr (nI (11 * j + v))) := by
        unfold f_8013_41
        refine lp_rel (F := fun q : Int32 => F_8013_41 tT σ 170 (nI l) (nI N) (nI j) (nI Z) q) (fun i q => q = nI i ∧ j + 1 ≤ i ∧ ∀ y, y < i → Z.testBit y = false) (fun b => (b = .inl (nI (j + 1)) ∧ ∀ y, y < 11 → Z.testBit y = false) ∨ ∃ v, v < 11 ∧ Z.testBit v = true ∧ b = .inr (nI (11 * j + v))) 11 (fun i q hi hI => ?_) (j + 1) (nI (j + 1)) (by omega) ⟨rfl, Nat.le_refl _, fun y hy => ?_⟩
        · obtain ⟨rfl, g1, g2⟩ := hI
          by_cases hi11 : i = 11
          · right
            refine ⟨.inl (nI (j + 1)), ?_, Or.inl ⟨rfl, by rw [← hi11]; exact g2⟩⟩
            simp (disch := omega) only [F_8013_41, gd_tt, oA_arr, px_obj_s, Option.bind_some, Option.map_some, Option.bind_none, eq_self, true_or, or_true, px_av_0, px_av_1, px_av_2, px_av_10, px_av_11, bn, wi_1, wi_2, wl_1, wl_21, wl_22, wr_1, wr_21, wr_22, Sum.elim_inl, Sum.elim_inr, ↓reduceIte, Nat.reduceLT, Nat.reduceLeDiff, not_false_eq_true, not_true_eq_false, Nat.reduceEqDiff, Nat.reduceAdd, reduceCtorEq, and_true, true_and, and_false, false_and, false_or, or_false, true_and, and_true, ni_divL, ni_subL, nI_add, pk_mul, nI_leI, nI_ltI, nI_eq, vp_in_eq, nI_clamp, ↓ni_tst, ni_tst2, fa_and, fa_or, ni_bit1, ni_1s, nI_l, mb_eq0, mb_ne0, mb_eq1, gd_tt, gd_t, bft]
            rw [if_pos (by omega)]
          · have hi2 : ¬ 11 ≤ i := by omega
            by_cases hz0 : Z = 0
            · right
              refine ⟨.inl (nI (j + 1)), ?_, Or.inl ⟨rfl, fun y _ => by rw [hz0, Nat.zero_testBit]⟩⟩
              simp (disch := omega) only [F_8013_41, gd_tt, oA_arr, px_obj_s, Option.bind_some, Option.map_some, Option.bind_none, eq_self, true_or, or_true, px_av_0, px_av_1, px_av_2, px_av_10, px_av_11, bn, wi_1, wi_2, wl_1, wl_21, wl_22, wr_1, wr_21, wr_22, Sum.elim_inl, Sum.elim_inr, ↓reduceIte, Nat.reduceLT, Nat.reduceLeDiff, not_false_eq_true, not_true_eq_false, Nat.reduceEqDiff, Nat.reduceAdd, reduceCtorEq, and_true, true_and, and_false, false_and, false_or, or_false, true_and, and_true, ni_divL, ni_subL, nI_add, pk_mul, nI_leI, nI_ltI, nI_eq, vp_in_eq, nI_clamp, ↓ni_tst, ni_tst2, fa_and, fa_or, ni_bit1, ni_1s, nI_l, mb_eq0, mb_ne0, mb_eq1, gd_tt, gd_t, bft, hz0, hi2]
            · cases hbi : Z.testBit i with
              | false =>
                left
                refine ⟨nI (i + 1), ?_, by omega, rfl, by omega, fun y hy => ?_⟩
                · simp (disch := omega) only [F_8013_41, gd_tt, oA_arr, px_obj_s, Option.bind_some, Option.map_some, Option.bind_none, eq_self, true_or, or_true, px_av_0, px_av_1, px_av_2, px_av_10, px_av_11, bn, wi_1, wi_2, wl_1, wl_21, wl_22, wr_1, wr_21, wr_22, Sum.elim_inl, Sum.elim_inr, ↓reduceIte, Nat.reduceLT, Nat.reduceLeDiff, not_false_eq_true, not_true_eq_false, Nat.reduceEqDiff, Nat.reduceAdd, reduceCtorEq, and_true, true_and, and_false, false_and, false_or, or_false, true_and, and_true, ni_divL, ni_subL, nI_add, pk_mul, nI_leI, nI_ltI, nI_eq, vp_in_eq, nI_clamp, ↓ni_tst, ni_tst2, fa_and, fa_or, ni_bit1, ni_1s, nI_l, mb_eq0, mb_ne0, mb_eq1, gd_tt, gd_t, bft, hz0, hi2, hbi]
                · by_cases hyi : y = i
                  · subst hyi; exact hbi
                  · exact g2 y (by omega)
              | true =>
                right
                refine ⟨.inr (nI (11 * j + i)), ?_, Or.inr ⟨i, by omega, hbi, rfl⟩⟩
                simp (disch := omega) only [F_8013_41, gd_tt, oA_arr, px_obj_s, Option.bind_some, Option.map_some, Option.bind_none, eq_self, true_or, or_true, px_av_0, px_av_1, px_av_2, px_av_10, px_av_11, bn, wi_1, wi_2, wl_1, wl_21, wl_22, wr_1, wr_21, wr_22, Sum.elim_inl, Sum.elim_inr, ↓reduceIte, Nat.reduceLT, Nat.reduceLeDiff, not_false_eq_true, not_true_eq_false, Nat.reduceEqDiff, Nat.reduceAdd, reduceCtorEq, and_true, true_and, and_false, false_and, false_or, or_false, true_and, and_true, ni_divL, ni_subL, nI_add, pk_mul, nI_leI, nI_ltI, nI_eq, vp_in_eq, nI_clamp, ↓ni_tst, ni_tst2, fa_and, fa_or, ni_bit1, ni_1s, nI_l, mb_eq0, mb_ne0, mb_eq1, gd_tt, gd_t, bft, hz0, hi2, hbi]
        · cases hb : Z.testBit y with
          | false => rfl
          | true => have := ((hZt y).mp hb).1; omega
      obtain ⟨b, q1, q2⟩ := inner
      have hF : F_8013_2 tT σ 170 (nI l) (nI N) (nI j) = some b := by
        unfold F_8013_2 f_8013_36
        simp only [la_100, la_102, la_103, la_104, la_105, la_110, la_111, la_112, la_113, la_114, la_115, la_116, la_117, la_120, la_121, la_122, la_123, la_124, la_125, la_126, la_127, la_130, la_131, la_132, la_133, la_134, la_135, la_136, la_137, la_140, la_141, la_142, la_143, la_144, la_145, la_146, la_147, la_150, la_151, la_152, la_153, la_160, la_161, la_170, la_171, la_172, la_173, la_174, la_180, la_181, la_182, la_183, la_184, la_185, la_186, la_190, la_191, la_192, la_193, la_194, la_195, la_200, la_201, la_202, la_210, la_211, la_212, la_213, la_214, la_215, la_216, la_217, la_218, la_219, la_220, la_221, la_222, la_223, la_224, la_225, la_226, la_230, la_231, la_232, la_233, la_234, la_240, la_241, gd_tt, oA_arr, px_obj_s, Option.bind_some, Option.map_some, Option.bind_none, eq_self, true_or, or_true, px_av_0, px_av_1, px_av_2, px_av_10, px_av_11, bn, wi_1, wi_2, wl_1, wl_21, wl_22, wr_1, wr_21, wr_22, Sum.elim_inl, Sum.elim_inr, ↓reduceIte, Nat.reduceLT, Nat.reduceLeDiff, not_false_eq_true, not_true_eq_false, Nat.reduceEqDiff, Nat.reduceAdd, reduceCtorEq, and_true, true_and, and_false, false_and, false_or, or_false, k1, eZ, n10, nI_add, q1]
        simp (disch := omega) only [gd_tt, oA_arr, px_obj_s, Option.bind_some, Option.map_some, Option.bind_none, eq_self, true_or, or_true, px_av_0, px_av_1, px_av_2, px_av_10, px_av_11, bn, wi_1, wi_2, wl_1, wl_21, wl_22, wr_1, wr_21, wr_22, Sum.elim_inl, Sum.elim_inr, ↓reduceIte, Nat.reduceLT, Nat.reduceLeDiff, not_false_eq_true, not_true_eq_false, Nat.reduceEqDiff, Nat.reduceAdd, reduceCtorEq, and_true, true_and, and_false, false_and, false_or, or_false, true_and, and_true, ni_divL, ni_subL, nI_add, pk_mul, nI_leI, nI_ltI, nI_eq, vp_in_eq, nI_clamp, ↓ni_tst, ni_tst2, fa_and, fa_or, ni_bit1, ni_1s, nI_l, mb_eq0, mb_ne0, mb_eq1, gd_tt, gd_t, bft, hb, hj2]
      rcases q2 with ⟨rfl, z⟩ | ⟨v, hv, hZv, rfl⟩
      · left
        refine ⟨nI (j + 1), hF, by omega, rfl, fun x y hx hy hxy hNx hNy => ?_⟩
        by_cases hxj : x = j
        · subst hxj
          cases hA : (A x).testBit y with
          | true => rfl
          | false => have := (hZt y).mpr ⟨hxy, hNy, hA⟩; rw [z y hy] at this; cases this
        · exact g x y (by omega) hy hxy hNx hNy
      · right
        obtain ⟨z1, z2, z3⟩ := (hZt v).mp hZv
        exact ⟨_, hF, Or.inr ⟨j, v, z1, hv, hb, z2, z3, rfl⟩⟩
end
