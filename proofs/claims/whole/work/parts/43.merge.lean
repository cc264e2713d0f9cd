/-! whom the class takes next, and two made one on the next level -/
section
variable {σ τ : px_M} {l : Nat} {A : Nat → Nat}
theorem nm1 {a : Nat} (ha : a < 2 ^ 31) : ¬ nI a = -1 := fun q => by
  have h1 := congrArg Int32.toInt q
  rw [nI_toInt ha] at h1
  have : (-1 : Int32).toInt = -1 := by decide
  omega
theorem bc_10 {N x : Nat} (hx : x < 11) (h : N.testBit x = false) : bc 11 N ≤ 10 := by
  have := bc_one hx h
  have := bc_le 11 (N ||| 2 ^ x)
  omega
theorem c_8012 (hR : cR σ.2.2) (h : lvl σ l A) (hA : sy A) (hl : l < 12) {left : Nat} (hL : left < 2048) (hL0 : left ≠ 0) : ∃ h, f_8012 tT σ 170 (nI l) (nI left) = some (nI h) ∧ left.testBit h = true ∧ h < 11 := by
  unfold f_8012 f_8012_9
  obtain ⟨b, hb, x, rfl, hx⟩ := lp_rel (F := fun q : Int32 × Int32 × Int32 => F_8012_9 tT σ 170 (nI l) (nI left) q.1 q.2.1 q.2.2) (fun j q => (q = (-1, nI 11, nI j) ∧ ∀ x, x < j → left.testBit x = false) ∨ ∃ b m, q = (nI b, nI m, nI j) ∧ left.testBit b = true ∧ m < 11 ∧ b < 11) (fun r => ∃ x, r = nI x ∧ left.testBit x = true ∧ x < 11) 11 (fun j q hj hI => by
    obtain ⟨y, z, hq, hz⟩ : ∃ y z, q = (y, nI z, nI j) ∧ z ≤ 11 := by
      rcases hI with ⟨rfl, -⟩ | ⟨b, m, rfl, -, h1, -⟩
      · exact ⟨_, _, rfl, Nat.le_refl _⟩
      · exact ⟨_, _, rfl, by omega⟩
    by_cases hj11 : j = 11
    · right
      rcases hI with ⟨rfl, h2⟩ | ⟨b, m, rfl, h2, h3, h4⟩
      · exfalso
        apply hL0
        apply tb_eq
        intro i
        rw [Nat.zero_testBit]
        constructor
        · intro q
          rw [h2 i (by rw [hj11]; exact tb_lt (n := 11) hL q)] at q
          cases q
        · intro q; cases q
      · refine ⟨nI b, ?_, b, rfl, h2, h4⟩
        simp (disch := omega) only [F_8012_9, gd_tt, oA_arr, px_obj_s, Option.bind_some, Option.map_some, Option.bind_none, eq_self, true_or, or_true, px_av_0, px_av_1, px_av_2, px_av_10, px_av_11, bn, wi_1, wi_2, wl_1, wl_21, wl_22, wr_1, wr_21, wr_22, Sum.elim_inl, Sum.elim_inr, ↓reduceIte, Nat.reduceLT, Nat.reduceLeDiff, not_false_eq_true, not_true_eq_false, Nat.reduceEqDiff, Nat.reduceAdd, reduceCtorEq, and_true, true_and, and_false, false_and, false_or, or_false, true_and, and_true, ni_divL, ni_subL, nI_add, pk_mul, nI_leI, nI_ltI, nI_eq, vp_in_eq, nI_clamp, ↓ni_tst, ni_tst2, fa_and, fa_or, ni_bit1, ni_1s, nI_l, mb_eq0, mb_ne0, mb_eq1, gd_tt, gd_t, bft]
        rw [if_pos (by omega)]
    · have hj2 : ¬ 11 ≤ j := by omega
      have hjl : j < 11 := by omega
      cases hbj : left.testBit j with
      | false =>
        left
        refine ⟨(y, nI z, nI (j + 1)), ?_, by omega, ?_⟩
        · rw [hq]
          simp (disch := omega) only [F_8012_9, f_8012_73, gd_tt, oA_arr, px_obj_s, Option.bind_some, Option.map_some, Option.bind_none, eq_self, true_or, or_true, px_av_0, px_av_1, px_av_2, px_av_10, px_av_11, bn, wi_1, wi_2, wl_1, wl_21, wl_22, wr_1, wr_21, wr_22, Sum.elim_inl, Sum.elim_inr, ↓reduceIte, Nat.reduceLT, Nat.reduceLeDiff, not_false_eq_true, not_true_eq_false, Nat.reduceEqDiff, Nat.reduceAdd, reduceCtorEq, and_true, true_and, and_false, false_and, false_or, or_false, true_and, and_true, ni_divL, ni_subL, nI_add, pk_mul, nI_leI, nI_ltI, nI_eq, vp_in_eq, nI_clamp, ↓ni_tst, ni_tst2, fa_and, fa_or, ni_bit1, ni_1s, nI_l, mb_eq0, mb_ne0, mb_eq1, gd_tt, gd_t, bft, hbj, hj2]
        · rcases hI with ⟨rfl, h2⟩ | ⟨b, m, rfl, h2⟩
          · left
            simp only [Prod.mk.injEq] at hq
            refine ⟨by rw [← hq.1, ← hq.2.1], fun x hx => ?_⟩
            by_cases hxj : x = j
            · subst hxj; exact hbj
            · exact h2 x (by omega)
          · right
            simp only [Prod.mk.injEq] at hq
            exact ⟨b, m, by rw [← hq.1, ← hq.2.1], h2⟩
      | true =>
        have k1 := c_8010 hR h hl hjl
        have hN : A j &&& left < 2048 := and_lt (hA.1 j)
        obtain ⟨r, r1, r2⟩ := c_8013 hR h hl hN
        have hd : bc 11 (A j &&& left) ≤ 10 := bc_10 hjl (by rw [Nat.testBit_and, hA.2.2.1 j, Bool.false_and])
        have hF : F_8012_9 tT σ 170 (nI l) (nI left) y (nI z) (nI j) = if r = -1 then some (.inr (nI j)) else if z ≤ bc 11 (A j &&& left) then some (.inl (y, nI z, nI (j + 1))) else some (.inl (nI j, nI (bc 11 (A j &&& left)), nI (j + 1))) := by
          simp (disch := omega) only [F_8012_9, f_8012_39, f_8012_73, la_100, la_102, la_103, la_104, la_105, la_110, la_111, la_112, la_113, la_114, la_115, la_116, la_117, la_120, la_121, la_122, la_123, la_124, la_125, la_126, la_127, la_130, la_131, la_132, la_133, la_134, la_135, la_136, la_137, la_140, la_141, la_142, la_143, la_144, la_145, la_146, la_147, la_150, la_151, la_152, la_153, la_160, la_161, la_170, la_171, la_172, la_173, la_174, la_180, la_181, la_182, la_183, la_184, la_185, la_186, la_190, la_191, la_192, la_193, la_194, la_195, la_200, la_201, la_202, la_210, la_211, la_212, la_213, la_214, la_215, la_216, la_217, la_218, la_219, la_220, la_221, la_222, la_223, la_224, la_225, la_226, la_230, la_231, la_232, la_233, la_234, la_240, la_241, k1, r1, e_bitCount σ hN, gd_tt, oA_arr, px_obj_s, Option.bind_some, Option.map_some, Option.bind_none, eq_self, true_or, or_true, px_av_0, px_av_1, px_av_2, px_av_10, px_av_11, bn, wi_1, wi_2, wl_1, wl_21, wl_22, wr_1, wr_21, wr_22, Sum.elim_inl, Sum.elim_inr, ↓reduceIte, Nat.reduceLT, Nat.reduceLeDiff, not_false_eq_true, not_true_eq_false, Nat.reduceEqDiff, Nat.reduceAdd, reduceCtorEq, and_true, true_and, and_false, false_and, false_or, or_false, true_and, and_true, ni_divL, ni_subL, nI_add, pk_mul, nI_leI, nI_ltI, nI_eq, vp_in_eq, nI_clamp, ↓ni_tst, ni_tst2, fa_and, fa_or, ni_bit1, ni_1s, nI_l, mb_eq0, mb_ne0, mb_eq1, gd_tt, gd_t, bft, hbj, hj2]
        by_cases hr : r = -1
        · right
          exact ⟨nI j, by rw [hq]; dsimp only; rw [hF, if_pos hr], j, rfl, hbj, hjl⟩
        · left
          by_cases hzz : z ≤ bc 11 (A j &&& left)
          · refine ⟨(y, nI z, nI (j + 1)), by rw [hq]; dsimp only; rw [hF, if_neg hr, if_pos hzz], by omega, ?_⟩
            rcases hI with ⟨rfl, h2⟩ | ⟨b, m, rfl, h2⟩
            · exfalso
              simp only [Prod.mk.injEq] at hq
              have := (nI_eq (show 11 < 2 ^ 31 by decide) (show z < 2 ^ 31 by omega)).mp hq.2.1
              omega
            · right
              simp only [Prod.mk.injEq] at hq
              exact ⟨b, m, by rw [← hq.1, ← hq.2.1], h2⟩
          · exact ⟨(nI j, nI (bc 11 (A j &&& left)), nI (j + 1)), by rw [hq]; dsimp only; rw [hF, if_neg hr, if_neg hzz], by omega, Or.inr ⟨j, _, rfl, hbj, by omega, hjl⟩⟩) 0 (-1, nI 11, nI 0) (by omega) (Or.inl ⟨rfl, fun x hx => absurd hx (by omega)⟩)
  exact ⟨x, hb, hx⟩
/-- u and v made one -/
def mg (A : Nat → Nat) (u v : Nat) : Nat → Nat := fun x => if x = u then A u ||| A v else if (A u ||| A v).testBit x = true then A x ||| 2 ^ u else A x
theorem mg_R {u v : Nat} (hA : sy A) (huv : u ≠ v) {x y : Nat} (hx : x ≠ v) (hy : y ≠ v) (hno : (A u).testBit v = false) : (mg A u v x).testBit y = true ↔ (A x).testBit y = true ∨ (x = u ∧ (A v).testBit y = true) ∨ (y = u ∧ (A v).testBit x = true) := by
  have hvu : (A v).testBit u = false := by
    cases h : (A v).testBit u with
    | false => rfl
    | true => have := hA.2.1 _ _ h; rw [hno] at this; cases this
  unfold mg
  by_cases hxu : x = u
  · subst hxu
    rw [if_pos rfl, Nat.testBit_or, Bool.or_eq_true]
    constructor
    · rintro (h | h)
      · exact Or.inl h
      · exact Or.inr (Or.inl ⟨rfl, h⟩)
    · rintro (h | ⟨-, h⟩ | ⟨rfl, h⟩)
      · exact Or.inl h
      · exact Or.inr h
      · exact Or.inr h
  · rw [if_neg hxu]
    by_cases ht : (A u ||| A v).testBit x = true
    · rw [if_pos ht, Nat.testBit_or, Nat.testBit_two_pow, Bool.or_eq_true, decide_eq_true_eq]
      rw [Nat.testBit_or, Bool.or_eq_true] at ht
      constructor
      · rintro (h | h)
        · exact Or.inl h
        · subst h
          rcases ht with ht | ht
          · exact Or.inl (hA.2.1 _ _ ht)
          · exact Or.inr (Or.inr ⟨rfl, ht⟩)
      · rintro (h | ⟨h, -⟩ | ⟨h, -⟩)
        · exact Or.inl h
        · exact absurd h hxu
        · exact Or.inr h.symm
    · rw [if_neg ht]
      constructor
      · exact Or.inl
      · rintro (h | ⟨h, -⟩ | ⟨-, h⟩)
        · exact h
        · exact absurd h hxu
        · exact absurd (by rw [Nat.testBit_or, h, Bool.or_true]) ht
theorem mg_sy {u v : Nat} (hA : sy A) (hu : u < 11) (huv : u ≠ v) (hno : (A u).testBit v = false) : sy (mg A u v) := by
  obtain ⟨a1, a2, a3, a4⟩ := hA
  have hvu : (A v).testBit u = false := by
    cases h : (A v).testBit u with
    | false => rfl
    | true => have := a2 _ _ h; rw [hno] at this; cases this
  have hor : A u ||| A v < 2048 := or_lt (a1 u) (a1 v)
  refine ⟨fun x => ?_, fun x y h => ?_, fun x => ?_, fun x hx => ?_⟩
  · unfold mg
    split
    · exact hor
    · split
      · exact or_lt (a1 x) (pw_lt hu)
      · exact a1 x
  · unfold mg at h ⊢
    by_cases hxu : x = u
    · subst hxu
      rw [if_pos rfl] at h
      by_cases hyx : y = x
      · subst hyx; rw [if_pos rfl]; exact h
      · rw [if_neg hyx, if_pos h, Nat.testBit_or, Nat.testBit_two_pow, decide_eq_true rfl, Bool.or_true]
    · rw [if_neg hxu] at h
      by_cases hyu : y = u
      · subst hyu
        rw [if_pos rfl]
        by_cases ht : (A y ||| A v).testBit x = true
        · exact ht
        · rw [if_neg ht] at h
          rw [Nat.testBit_or, a2 _ _ h, Bool.true_or]
      · rw [if_neg hyu]
        have hxy : (A x).testBit y = true := by
          by_cases ht : (A u ||| A v).testBit x = true
          · rw [if_pos ht, Nat.testBit_or, Nat.testBit_two_pow, decide_eq_false (fun z => hyu z.symm), Bool.or_false] at h
            exact h
          · rw [if_neg ht] at h; exact h
        split
        · rw [Nat.testBit_or, a2 _ _ hxy, Bool.true_or]
        · exact a2 _ _ hxy
  · unfold mg
    split
    · rename_i hxu
      rw [Nat.testBit_or, hxu, a3 u, hvu]; rfl
    · rename_i hxu
      split
      · rw [Nat.testBit_or, a3 x, Nat.testBit_two_pow, decide_eq_false (fun z => hxu z.symm)]; rfl
      · exact a3 x
  · unfold mg
    rw [if_neg (by omega), if_neg, a4 x hx]
    intro h
    have := tb_lt (n := 11) hor h
    omega
theorem c_8014 (hR : cR σ.2.2) (h : lvl σ l A) (hA : sy A) (hl : l + 1 < 12) {u v : Nat} (hu : u < 11) (hv : v < 11) : ∃ υ, f_8014 tT σ 170 (nI l) (nI u) (nI v) = some υ ∧ fr (on 172) σ υ ∧ (∀ i, i < (l + 1) * 11 → υ.1 172 i = σ.1 172 i) ∧ lvl υ (l + 1) (mg A u v) := by
  have hor : A u ||| A v < 2048 := or_lt (hA.1 u) (hA.1 v)
  have lp : ∃ υ, f_8014_18 tT 170 (nI l) (nI u) (nI (A u ||| A v)) (nI 0) σ = some υ ∧ fr (on 172) σ υ ∧ (∀ i, i < (l + 1) * 11 → υ.1 172 i = σ.1 172 i) ∧ lvl υ (l + 1) (mg A u v) := by
    unfold f_8014_18
    refine lp_for (F := fun q : Int32 × px_M => F_8014_18 tT 170 (nI l) (nI u) (nI (A u ||| A v)) q.1 q.2) (fun j q => q.1 = nI j ∧ fr (on 172) σ q.2 ∧ (∀ i, i < (l + 1) * 11 → q.2.1 172 i = σ.1 172 i) ∧ ∀ x, x < j → q.2.1 172 ((l + 1) * 11 + x) = nI (if (A u ||| A v).testBit x = true then A x ||| 2 ^ u else A x)) (fun b => fr (on 172) σ b ∧ (∀ i, i < (l + 1) * 11 → b.1 172 i = σ.1 172 i) ∧ lvl b (l + 1) (mg A u v)) 11 (fun j q hj hI => ?_) (fun q hI => ?_) 0 (nI 0, σ) (by omega) ⟨rfl, fr_rf _ _, fun _ _ => rfl, fun x hx => absurd hx (by omega)⟩
    · obtain ⟨x, ρ⟩ := q
      obtain ⟨hx, g1, g2, g3⟩ := hI
      dsimp only at hx g1 g2 g3
      subst hx
      have hRρ := cR_fr g1 hR
      have hlρ : lvl ρ l A := fun x hx => by rw [g2 _ (by omega)]; exact h x hx
      have k1 := c_8010 hRρ hlρ (by omega) hj
      have k2 := c_8011 (σ := ρ) (a := A j) hRρ hl hj
      have k3 := c_8011 (σ := ρ) (a := A j ||| 2 ^ u) hRρ hl hj
      have hj2 : ¬ 11 ≤ j := by omega
      have hAj := hA.1 j
      refine ⟨(nI (j + 1), px_wi ρ 172 ((l + 1) * 11 + j) (nI (if (A u ||| A v).testBit j = true then A j ||| 2 ^ u else A j))), ?_, rfl, fr_wi g1 _ (on_t _ _), fun i hi => ?_, fun x hx => ?_⟩
      · cases hb : (A u ||| A v).testBit j with
        | false =>
          simp (disch := omega) only [F_8014_18, f_8014_64, la_100, la_102, la_103, la_104, la_105, la_110, la_111, la_112, la_113, la_114, la_115, la_116, la_117, la_120, la_121, la_122, la_123, la_124, la_125, la_126, la_127, la_130, la_131, la_132, la_133, la_134, la_135, la_136, la_137, la_140, la_141, la_142, la_143, la_144, la_145, la_146, la_147, la_150, la_151, la_152, la_153, la_160, la_161, la_170, la_171, la_172, la_173, la_174, la_180, la_181, la_182, la_183, la_184, la_185, la_186, la_190, la_191, la_192, la_193, la_194, la_195, la_200, la_201, la_202, la_210, la_211, la_212, la_213, la_214, la_215, la_216, la_217, la_218, la_219, la_220, la_221, la_222, la_223, la_224, la_225, la_226, la_230, la_231, la_232, la_233, la_234, la_240, la_241, k1, gd_tt, oA_arr, px_obj_s, Option.bind_some, Option.map_some, Option.bind_none, eq_self, true_or, or_true, px_av_0, px_av_1, px_av_2, px_av_10, px_av_11, bn, wi_1, wi_2, wl_1, wl_21, wl_22, wr_1, wr_21, wr_22, Sum.elim_inl, Sum.elim_inr, ↓reduceIte, Nat.reduceLT, Nat.reduceLeDiff, not_false_eq_true, not_true_eq_false, Nat.reduceEqDiff, Nat.reduceAdd, reduceCtorEq, and_true, true_and, and_false, false_and, false_or, or_false, true_and, and_true, ni_divL, ni_subL, nI_add, pk_mul, nI_leI, nI_ltI, nI_eq, vp_in_eq, nI_clamp, ↓ni_tst, ni_tst2, fa_and, fa_or, ni_bit1, ni_1s, nI_l, mb_eq0, mb_ne0, mb_eq1, gd_tt, gd_t, bft, hb, hj2, k2]
        | true =>
          simp (disch := omega) only [F_8014_18, f_8014_64, la_100, la_102, la_103, la_104, la_105, la_110, la_111, la_112, la_113, la_114, la_115, la_116, la_117, la_120, la_121, la_122, la_123, la_124, la_125, la_126, la_127, la_130, la_131, la_132, la_133, la_134, la_135, la_136, la_137, la_140, la_141, la_142, la_143, la_144, la_145, la_146, la_147, la_150, la_151, la_152, la_153, la_160, la_161, la_170, la_171, la_172, la_173, la_174, la_180, la_181, la_182, la_183, la_184, la_185, la_186, la_190, la_191, la_192, la_193, la_194, la_195, la_200, la_201, la_202, la_210, la_211, la_212, la_213, la_214, la_215, la_216, la_217, la_218, la_219, la_220, la_221, la_222, la_223, la_224, la_225, la_226, la_230, la_231, la_232, la_233, la_234, la_240, la_241, k1, gd_tt, oA_arr, px_obj_s, Option.bind_some, Option.map_some, Option.bind_none, eq_self, true_or, or_true, px_av_0, px_av_1, px_av_2, px_av_10, px_av_11, bn, wi_1, wi_2, wl_1, wl_21, wl_22, wr_1, wr_21, wr_22, Sum.elim_inl, Sum.elim_inr, ↓reduceIte, Nat.reduceLT, Nat.reduceLeDiff, not_false_eq_true, not_true_eq_false, Nat.reduceEqDiff, Nat.reduceAdd, reduceCtorEq, and_true, true_and, and_false, false_and, false_or, or_false, true_and, and_true, ni_divL, ni_subL, nI_add, pk_mul, nI_leI, nI_ltI, nI_eq, vp_in_eq, nI_clamp, ↓ni_tst, ni_tst2, fa_and, fa_or, ni_bit1, ni_1s, nI_l, mb_eq0, mb_ne0, mb_eq1, gd_tt, gd_t, bft, hb, hj2, k3]
      · show px_up ρ.1 172 _ _ 172 i = _
        rw [up_s, if_neg (by omega)]; exact g2 i hi
      · show px_up ρ.1 172 _ _ 172 _ = _
        rw [up_s]
        by_cases hxj : x = j
        · subst hxj; rw [if_pos rfl]
        · rw [if_neg (by omega)]; exact g3 x (by omega)
    · obtain ⟨x, ρ⟩ := q
      obtain ⟨hx, g1, g2, g3⟩ := hI
      dsimp only at hx g1 g2 g3
      subst hx
      have k2 := c_8011 (σ := ρ) (a := A u ||| A v) (cR_fr g1 hR) hl hu
      refine ⟨px_wi ρ 172 ((l + 1) * 11 + u) (nI (A u ||| A v)), ?_, fr_wi g1 _ (on_t _ _), fun i hi => ?_, fun x hx => ?_⟩
      · simp (disch := omega) only [F_8014_18, la_100, la_102, la_103, la_104, la_105, la_110, la_111, la_112, la_113, la_114, la_115, la_116, la_117, la_120, la_121, la_122, la_123, la_124, la_125, la_126, la_127, la_130, la_131, la_132, la_133, la_134, la_135, la_136, la_137, la_140, la_141, la_142, la_143, la_144, la_145, la_146, la_147, la_150, la_151, la_152, la_153, la_160, la_161, la_170, la_171, la_172, la_173, la_174, la_180, la_181, la_182, la_183, la_184, la_185, la_186, la_190, la_191, la_192, la_193, la_194, la_195, la_200, la_201, la_202, la_210, la_211, la_212, la_213, la_214, la_215, la_216, la_217, la_218, la_219, la_220, la_221, la_222, la_223, la_224, la_225, la_226, la_230, la_231, la_232, la_233, la_234, la_240, la_241, gd_tt, oA_arr, px_obj_s, Option.bind_some, Option.map_some, Option.bind_none, eq_self, true_or, or_true, px_av_0, px_av_1, px_av_2, px_av_10, px_av_11, bn, wi_1, wi_2, wl_1, wl_21, wl_22, wr_1, wr_21, wr_22, Sum.elim_inl, Sum.elim_inr, ↓reduceIte, Nat.reduceLT, Nat.reduceLeDiff, not_false_eq_true, not_true_eq_false, Nat.reduceEqDiff, Nat.reduceAdd, reduceCtorEq, and_true, true_and, and_false, false_and, false_or, or_false, true_and, and_true, ni_divL, ni_subL, nI_add, pk_mul, nI_leI, nI_ltI, nI_eq, vp_in_eq, nI_clamp, ↓ni_tst, ni_tst2, fa_and, fa_or, ni_bit1, ni_1s, nI_l, mb_eq0, mb_ne0, mb_eq1, gd_tt, gd_t, bft, k2]
        try rw [if_pos (by omega)]
      · show px_up ρ.1 172 _ _ 172 i = _
        rw [up_s, if_neg (by omega)]; exact g2 i hi
      · show px_up ρ.1 172 _ _ 172 _ = _
        rw [up_s]
        unfold mg
        by_cases hxu : x = u
        · subst hxu; rw [if_pos rfl, if_pos rfl]
        · rw [if_neg (by omega), if_neg hxu]; exact g3 x hx
  obtain ⟨υ, q1, q2⟩ := lp
  refine ⟨υ, ?_, q2⟩
  simp only [f_8014, f_8014_15, la_100, la_102, la_103, la_104, la_105, la_110, la_111, la_112, la_113, la_114, la_115, la_116, la_117, la_120, la_121, la_122, la_123, la_124, la_125, la_126, la_127, la_130, la_131, la_132, la_133, la_134, la_135, la_136, la_137, la_140, la_141, la_142, la_143, la_144, la_145, la_146, la_147, la_150, la_151, la_152, la_153, la_160, la_161, la_170, la_171, la_172, la_173, la_174, la_180, la_181, la_182, la_183, la_184, la_185, la_186, la_190, la_191, la_192, la_193, la_194, la_195, la_200, la_201, la_202, la_210, la_211, la_212, la_213, la_214, la_215, la_216, la_217, la_218, la_219, la_220, la_221, la_222, la_223, la_224, la_225, la_226, la_230, la_231, la_232, la_233, la_234, la_240, la_241, gd_tt, oA_arr, px_obj_s, Option.bind_some, Option.map_some, Option.bind_none, eq_self, true_or, or_true, px_av_0, px_av_1, px_av_2, px_av_10, px_av_11, bn, wi_1, wi_2, wl_1, wl_21, wl_22, wr_1, wr_21, wr_22, Sum.elim_inl, Sum.elim_inr, ↓reduceIte, Nat.reduceLT, Nat.reduceLeDiff, not_false_eq_true, not_true_eq_false, Nat.reduceEqDiff, Nat.reduceAdd, reduceCtorEq, and_true, true_and, and_false, false_and, false_or, or_false, c_8010 hR h (by omega) hu, c_8010 hR h (by omega) hv, fa_or, q1]
end
