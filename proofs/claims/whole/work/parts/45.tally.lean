/-! the class counts the ways: the rounds -/
section
variable {σ : px_M} {l k : Nat} {A : Nat → Nat}
theorem Wy_0 (R : Nat → Nat → Prop) (k : Nat) : Wy R 11 (Nat.testBit 0) k = 1 := by
  have h0 : ∀ m (w : (Nat → Nat) → Nat) κ, Cn k (Nat.testBit 0) m w κ = w κ := by
    intro m w
    induction m with
    | zero => intro κ; rfl
    | succ m ih =>
      intro κ
      simp only [Cn]
      rw [if_neg (by rw [Nat.zero_testBit]; simp), ih]
  unfold Wy
  rw [h0, ic_t]
  intro x y _ _ hx
  rw [Nat.zero_testBit] at hx
  cases hx
theorem c_rounds (g : px_M → Nat → Int32 → Int32 → Int32 → Option (Int64 × px_M)) (hk : k ≤ 6) (hl : l < 12) {m : Nat} (hlm : l + m ≤ 11) (Hg : ∀ left (σ : px_M) A, bc 11 left + 1 ≤ m → left < 2048 → cR σ.2.2 → lvl σ (l + 1) A → sy A → ∃ υ, g σ 170 (nI (l + 1)) (nI left) (nI k) = some (lN (Wy (RA A) 11 left.testBit k), υ) ∧ fr (on 172) σ υ ∧ ∀ i, i < (l + 1) * 11 → υ.1 172 i = σ.1 172 i) {left : Nat} (hL : left < 2048) (hm : bc 11 left ≤ m) (hR : cR σ.2.2) (h : lvl σ l A) (hA : sy A) : ∃ b, f_8009_24 tT g 170 (nI l) (nI k) (nI left) (lN 0) (lN 1) (nI 0) σ = some b ∧ ∃ υ, b = (lN (Wy (RA A) 11 left.testBit k), υ) ∧ fr (on 172) σ υ ∧ ∀ i, i < l * 11 → υ.1 172 i = σ.1 172 i := by
  obtain ⟨V, hV⟩ : ∃ V, V = Wy (RA A) 11 left.testBit k := ⟨_, rfl⟩
  rw [← hV]
  have h6 : (6 : Nat) ^ 11 = 362797056 := by decide
  unfold f_8009_24
  refine lp_rel (F := fun s : Int32 × Int64 × Int64 × Int32 × px_M => F_8009_24 tT g 170 (nI l) (nI k) s.1 s.2.1 s.2.2.1 s.2.2.2.1 s.2.2.2.2) (fun j q => ∃ le tot f ρ D, q = (nI le, lN tot, lN f, nI j, ρ) ∧ fr (on 172) σ ρ ∧ (∀ i, i < l * 11 → ρ.1 172 i = σ.1 172 i) ∧ lvl ρ l D ∧ sy D ∧ le < 2048 ∧ bc 11 le ≤ m ∧ tot + f * Wy (RA D) 11 le.testBit k = V ∧ 0 < f ∧ f ≤ 6 ^ (11 - bc 11 le) ∧ 2 * j + 2 * bc 11 le ≤ 22 + dg D) (fun b => ∃ υ, b = (lN V, υ) ∧ fr (on 172) σ υ ∧ ∀ i, i < l * 11 → υ.1 172 i = σ.1 172 i) 100 (fun j q hj hI => ?_) 0 (nI left, lN 0, lN 1, nI 0, σ) (by omega) ⟨left, 0, 1, σ, A, rfl, fr_rf _ _, fun _ _ => rfl, h, hA, hL, hm, by rw [hV, Nat.one_mul, Nat.zero_add], by decide, Nat.pow_pos (by decide), by have := bc_le 11 left; omega⟩
  obtain ⟨le, tot, f, ρ, D, rfl, g1, g2, g3, g4, g5, g6, g7, g8, g9, g10⟩ := hI
  have hRρ := cR_fr g1 hR
  have hdg := dg_le g4
  have hj2 : ¬ 100 ≤ j := by omega
  have hf6 : f ≤ 6 ^ 11 := Nat.le_trans g9 (Nat.pow_le_pow_right (by decide) (by omega))
  dsimp only
  by_cases hz : le = 0
  · subst hz
    right
    refine ⟨(lN (tot + f), ρ), ?_, ρ, ?_, g1, g2⟩
    · simp (disch := omega) only [F_8009_24, f_8009_209, lN_add, gd_tt, oA_arr, px_obj_s, Option.bind_some, Option.map_some, Option.bind_none, eq_self, true_or, or_true, px_av_0, px_av_1, px_av_2, px_av_10, px_av_11, bn, wi_1, wi_2, wl_1, wl_21, wl_22, wr_1, wr_21, wr_22, Sum.elim_inl, Sum.elim_inr, ↓reduceIte, Nat.reduceLT, Nat.reduceLeDiff, not_false_eq_true, not_true_eq_false, Nat.reduceEqDiff, Nat.reduceAdd, reduceCtorEq, and_true, true_and, and_false, false_and, false_or, or_false, true_and, and_true, ni_divL, ni_subL, nI_add, pk_mul, nI_leI, nI_ltI, nI_eq, vp_in_eq, nI_clamp, ↓ni_tst, ni_tst2, fa_and, fa_or, ni_bit1, ni_1s, nI_l, mb_eq0, mb_ne0, mb_eq1, gd_tt, gd_t, bft, hj2]
    · rw [← g7, Wy_0, Nat.mul_one]
  · obtain ⟨x, x1, x2, x3⟩ := c_8012 hRρ g3 g4 hl g5 hz
    have k1 := c_8010 hRρ g3 hl x3
    have hN : D x &&& le < 2048 := and_lt (g4.1 x)
    have hNt : ∀ y, (D x &&& le).testBit y = true ↔ le.testBit y = true ∧ RA D x y := fun y => by
      rw [Nat.testBit_and, Bool.and_eq_true]
      exact ⟨fun z => ⟨z.2, z.1⟩, fun z => ⟨z.2, z.1⟩⟩
    have hbn := bc_nd g5 x3 x2
    obtain ⟨r, r1, r2⟩ := c_8013 hRρ g3 hl hN
    rcases r2 with ⟨hr, r2⟩ | ⟨u, v, huv, hv, hu1, hv1, hno, hr⟩
    · subst hr
      have hg : bc 11 (D x &&& le) ≤ 11 := bc_le 11 _
      have hone : Wy (RA D) 11 le.testBit k = (k - bc 11 (D x &&& le)) * Wy (RA D) 11 (nd le (2 ^ x)).testBit k := by
        rw [Wy_one (R := RA D) (N := (D x &&& le).testBit) x3 x2 (fun a b => g4.2.1 a b) (by unfold RA; rw [g4.2.2.1 x]; simp) (fun y _ => hNt y) (fun a b ha hb hNa hNb hab => ?_), bc_sm]
        · congr 1
          exact Wy_congr (fun y _ => woh_nd g5 y) (fun _ _ _ _ _ _ => Iff.rfl)
        · rcases Nat.lt_or_ge a b with q | q
          · exact r2 a b ha hb q hNa hNb
          · exact g4.2.1 _ _ (r2 b a hb ha (by omega) hNb hNa)
      obtain ⟨f1, f2⟩ := fac hf6 hk hg
      have hbc := e_bitCount ρ hN
      generalize bc 11 (D x &&& le) = dgr at hone f1 f2 hbc hg
      have hF : F_8009_24 tT g 170 (nI l) (nI k) (nI le) (lN tot) (lN f) (nI j) ρ = if lN 0 < lN f * (nI k - nI dgr).toInt64 then some (.inl (nI (nd le (2 ^ x)), lN tot, lN f * (nI k - nI dgr).toInt64, nI (j + 1), ρ)) else some (.inr (lN tot, ρ)) := by
        unfold F_8009_24 f_8009_45 f_8009_57 f_8009_72 f_8009_85 f_8009_203
        simp only [la_100, la_102, la_103, la_104, la_105, la_110, la_111, la_112, la_113, la_114, la_115, la_116, la_117, la_120, la_121, la_122, la_123, la_124, la_125, la_126, la_127, la_130, la_131, la_132, la_133, la_134, la_135, la_136, la_137, la_140, la_141, la_142, la_143, la_144, la_145, la_146, la_147, la_150, la_151, la_152, la_153, la_160, la_161, la_170, la_171, la_172, la_173, la_174, la_180, la_181, la_182, la_183, la_184, la_185, la_186, la_190, la_191, la_192, la_193, la_194, la_195, la_200, la_201, la_202, la_210, la_211, la_212, la_213, la_214, la_215, la_216, la_217, la_218, la_219, la_220, la_221, la_222, la_223, la_224, la_225, la_226, la_230, la_231, la_232, la_233, la_234, la_240, la_241, gd_tt, oA_arr, px_obj_s, Option.bind_some, Option.map_some, Option.bind_none, eq_self, true_or, or_true, px_av_0, px_av_1, px_av_2, px_av_10, px_av_11, bn, wi_1, wi_2, wl_1, wl_21, wl_22, wr_1, wr_21, wr_22, Sum.elim_inl, Sum.elim_inr, ↓reduceIte, Nat.reduceLT, Nat.reduceLeDiff, not_false_eq_true, not_true_eq_false, Nat.reduceEqDiff, Nat.reduceAdd, reduceCtorEq, and_true, true_and, and_false, false_and, false_or, or_false, x1, k1, fa_and, r1, hbc, n10, nI_add]
        generalize lN f * (nI k - nI dgr).toInt64 = X
        simp (disch := omega) only [gd_tt, oA_arr, px_obj_s, Option.bind_some, Option.map_some, Option.bind_none, eq_self, true_or, or_true, px_av_0, px_av_1, px_av_2, px_av_10, px_av_11, bn, wi_1, wi_2, wl_1, wl_21, wl_22, wr_1, wr_21, wr_22, Sum.elim_inl, Sum.elim_inr, ↓reduceIte, Nat.reduceLT, Nat.reduceLeDiff, not_false_eq_true, not_true_eq_false, Nat.reduceEqDiff, Nat.reduceAdd, reduceCtorEq, and_true, true_and, and_false, false_and, false_or, or_false, true_and, and_true, ni_divL, ni_subL, nI_add, pk_mul, nI_leI, nI_ltI, nI_eq, vp_in_eq, nI_clamp, ↓ni_tst, ni_tst2, fa_and, fa_or, ni_bit1, ni_1s, nI_l, mb_eq0, mb_ne0, mb_eq1, gd_tt, gd_t, bft, hj2, hz, ni_nd]
      by_cases hpos : 0 < f * (k - dgr)
      · left
        have hgk : dgr ≤ k := by
          rcases Nat.lt_or_ge k dgr with q | q
          · rw [show k - dgr = 0 by omega, Nat.mul_zero] at hpos; omega
          · exact q
        rw [hF, if_pos (f1.mpr hpos), f2 hgk]
        refine ⟨_, rfl, by omega, nd le (2 ^ x), tot, f * (k - dgr), ρ, D, rfl, g1, g2, g3, g4, nd_lt g5, by omega, ?_, hpos, ?_, by omega⟩
        · rw [← g7, hone, Nat.mul_assoc]
        · have hb := bc_le 11 le
          rw [show 11 - bc 11 (nd le (2 ^ x)) = (11 - bc 11 le) + 1 by omega, Nat.pow_succ]
          exact Nat.mul_le_mul g9 (by omega)
      · right
        rw [hF, if_neg (fun z => hpos (f1.mp z))]
        refine ⟨_, rfl, ρ, ?_, g1, g2⟩
        rw [← g7, hone, ← Nat.mul_assoc, show f * (k - dgr) = 0 by omega, Nat.zero_mul, Nat.add_zero]
    · have hu : u < 11 := by omega
      have huv' : u ≠ v := by omega
      have lu := ((hNt u).mp hu1).1
      have lv := ((hNt v).mp hv1).1
      have hbv := bc_nd g5 hv lv
      have hnu : (nd le (2 ^ v)).testBit u = true := by
        rw [nd_tb g5, lu, Nat.testBit_two_pow, decide_eq_false (Ne.symm huv')]; rfl
      have hbu := bc_nd (nd_lt g5) hu hnu
      have hl1 : l + 1 < 12 := by omega
      obtain ⟨υ, y1, y2, y3, y4⟩ := c_8014 hRρ g3 g4 hl1 hu hv
      have hRυ := cR_fr y2 hRρ
      obtain ⟨ψ, z1, z2, z3⟩ := Hg (nd le (2 ^ v)) υ (mg D u v) (by omega) (nd_lt g5) hRυ y4 (mg_sy g4 hu huv' hno)
      have hRψ := cR_fr z2 hRυ
      have hlψ : lvl ψ l D := fun a ha => by rw [z3 _ (by omega), y3 _ (by omega)]; exact g3 a ha
      have w1 := c_8010 hRψ hlψ hl hu
      have w2 := c_8011 (σ := ψ) (a := D u ||| 2 ^ v) hRψ hl hu
      have hf1 : fr (on 172) σ (px_wi ψ 172 (l * 11 + u) (nI (D u ||| 2 ^ v))) := fr_wi (fr_tr g1 (fr_tr y2 z2)) _ (on_t _ _)
      have hR1 := cR_fr hf1 hR
      have hl2 : lvl (px_wi ψ 172 (l * 11 + u) (nI (D u ||| 2 ^ v))) l (fun a => if a = u then D u ||| 2 ^ v else D a) := fun a ha => by
        show px_up ψ.1 172 _ _ 172 _ = nI (if a = u then D u ||| 2 ^ v else D a)
        rw [up_s]
        by_cases hau : a = u
        · subst hau; rw [if_pos rfl, if_pos rfl]
        · rw [if_neg (by omega), if_neg hau]; exact hlψ a ha
      have w3 := c_8010 hR1 hl2 hl hv
      rw [if_neg (Ne.symm huv')] at w3
      have w4 := c_8011 (σ := px_wi ψ 172 (l * 11 + u) (nI (D u ||| 2 ^ v))) (a := D v ||| 2 ^ u) hR1 hl hv
      have htwo : Wy (RA D) 11 le.testBit k = Wy (RA (bf D u v)) 11 le.testBit k + Wy (RA (mg D u v)) 11 (nd le (2 ^ v)).testBit k := by
        rw [Wy_two (R := RA D) (Q := RA (bf D u v)) (T := RA (mg D u v)) hu hv huv' lu lv (fun a b => g4.2.1 a b) (fun q => ?_) (by unfold RA; rw [g4.2.2.1 v]; simp) (fun a b _ _ _ _ => bf_R huv' a b) (fun a b _ _ _ _ ha hb => mg_R g4 huv' ha hb hno)]
        · congr 1
          exact Wy_congr (fun y _ => woh_nd g5 y) (fun _ _ _ _ _ _ => Iff.rfl)
        · have := g4.2.1 _ _ q
          rw [hno] at this
          cases this
      generalize Wy (RA (mg D u v)) 11 (nd le (2 ^ v)).testBit k = W2 at htwo z1
      have e1 : (11 * u + v) / 11 = u := by omega
      have e2 : 11 * u + v - u * 11 = v := by omega
      have e3 : nI (11 * u + v) / nI 11 = nI u := by rw [ni_divL (by omega) (by decide) (by decide), e1]
      have e4 : nI (11 * u + v) - nI u * nI 11 = nI v := by rw [pk_mul, ni_subL (by omega), e2]
      have e5 : ¬ nI (11 * u + v) = -1 := nm1 (by omega)
      have e6 : ¬ nI 11 = nI 0 := by decide
      have hDu := g4.1 u
      have hDv := g4.1 v
      left
      refine ⟨(nI le, lN (tot + f * W2), lN f, nI (j + 1), px_wi (px_wi ψ 172 (l * 11 + u) (nI (D u ||| 2 ^ v))) 172 (l * 11 + v) (nI (D v ||| 2 ^ u))), ?_, by omega, le, tot + f * W2, f, _, bf D u v, rfl, fr_wi hf1 _ (on_t _ _), fun i hi => ?_, fun a ha => ?_, bf_sy g4 hu hv huv', g5, g6, ?_, g8, g9, ?_⟩
      · subst hr
        generalize px_wi (px_wi ψ 172 (l * 11 + u) (nI (D u ||| 2 ^ v))) 172 (l * 11 + v) (nI (D v ||| 2 ^ u)) = Ω at w4
        generalize px_wi ψ 172 (l * 11 + u) (nI (D u ||| 2 ^ v)) = Ω' at w2 w3 w4
        have q1 : nI 1 <<< (nI v &&& 31) = nI (2 ^ v) := ni_1s (by omega)
        have q2 : nI 1 <<< (nI u &&& 31) = nI (2 ^ u) := ni_1s (by omega)
        have q3 : ¬ nI 100 ≤ nI j := by rw [nI_leI (by decide) (by omega)]; omega
        have q4 : ¬ nI le = nI 0 := by rw [nI_eq (by omega) (by decide)]; exact hz
        have q5 : ¬ nI 12 ≤ nI (l + 1) := by rw [nI_leI (by decide) (by omega)]; omega
        unfold F_8009_24 f_8009_45 f_8009_57 f_8009_109 f_8009_116 f_8009_123 f_8009_140 f_8009_165 f_8009_184 f_8009_203
        simp only [la_100, la_102, la_103, la_104, la_105, la_110, la_111, la_112, la_113, la_114, la_115, la_116, la_117, la_120, la_121, la_122, la_123, la_124, la_125, la_126, la_127, la_130, la_131, la_132, la_133, la_134, la_135, la_136, la_137, la_140, la_141, la_142, la_143, la_144, la_145, la_146, la_147, la_150, la_151, la_152, la_153, la_160, la_161, la_170, la_171, la_172, la_173, la_174, la_180, la_181, la_182, la_183, la_184, la_185, la_186, la_190, la_191, la_192, la_193, la_194, la_195, la_200, la_201, la_202, la_210, la_211, la_212, la_213, la_214, la_215, la_216, la_217, la_218, la_219, la_220, la_221, la_222, la_223, la_224, la_225, la_226, la_230, la_231, la_232, la_233, la_234, la_240, la_241, gd_tt, oA_arr, px_obj_s, Option.bind_some, Option.map_some, Option.bind_none, eq_self, true_or, or_true, px_av_0, px_av_1, px_av_2, px_av_10, px_av_11, bn, wi_1, wi_2, wl_1, wl_21, wl_22, wr_1, wr_21, wr_22, Sum.elim_inl, Sum.elim_inr, ↓reduceIte, Nat.reduceLT, Nat.reduceLeDiff, not_false_eq_true, not_true_eq_false, Nat.reduceEqDiff, Nat.reduceAdd, reduceCtorEq, and_true, true_and, and_false, false_and, false_or, or_false, x1, k1, fa_and, fa_or, r1, e3, e4, e5, e6, nI_add, q1, q2, q3, q4, q5, y1, ni_nd g5, z1, w1, w2, w3, w4, lN_mul, lN_add]
      · show px_up (px_up ψ.1 172 _ _) 172 _ _ 172 i = _
        rw [up_s, if_neg (by omega), up_s, if_neg (by omega), z3 i (by omega), y3 i (by omega)]
        exact g2 i hi
      · show px_up (px_up ψ.1 172 _ _) 172 _ _ 172 _ = _
        unfold bf
        rw [up_s]
        by_cases hav : a = v
        · subst hav
          rw [if_pos rfl, if_neg (Ne.symm huv'), if_pos rfl]
        · rw [if_neg (by omega), up_s]
          by_cases hau : a = u
          · subst hau; rw [if_pos rfl, if_pos rfl]
          · rw [if_neg (by omega), if_neg hau, if_neg hav]; exact hlψ a ha
      · rw [← g7, htwo, Nat.mul_add]
        omega
      · rw [dg_bf g4 hu hv huv' hno]
        omega
/-- the ways to colour those of left -/
theorem c_8009 (hk : k ≤ 6) : ∀ m l d left (σ : px_M) A, m < d → l + m ≤ 11 → bc 11 left ≤ m → left < 2048 → cR σ.2.2 → lvl σ l A → sy A → ∃ υ, f_8009 tT d σ 170 (nI l) (nI left) (nI k) = some (lN (Wy (RA A) 11 left.testBit k), υ) ∧ fr (on 172) σ υ ∧ ∀ i, i < l * 11 → υ.1 172 i = σ.1 172 i := by
  intro m
  induction m with
  | zero =>
    intro l d left σ A hd hl hb hL hR h hA
    obtain ⟨d, rfl⟩ : ∃ d', d = d' + 1 := ⟨d - 1, by omega⟩
    obtain ⟨b, q1, υ, rfl, q2, q3⟩ := c_rounds (f_8009 tT d) hk (by omega) (m := 0) (by omega) (fun left σ A h => absurd h (by omega)) hL hb hR h hA
    refine ⟨υ, ?_, q2, q3⟩
    have a1 : ¬ nI l < nI 0 := by rw [nI_ltI (by omega) (by decide)]; omega
    have a2 : nI l < nI 12 := by rw [nI_ltI (by omega) (by decide)]; omega
    rw [f_8009_S]
    unfold F_8009
    rw [if_neg a1, if_pos a2, q1]
  | succ m ih =>
    intro l d left σ A hd hl hb hL hR h hA
    obtain ⟨d, rfl⟩ : ∃ d', d = d' + 1 := ⟨d - 1, by omega⟩
    obtain ⟨b, q1, υ, rfl, q2, q3⟩ := c_rounds (f_8009 tT d) hk (by omega) (m := m + 1) (by omega) (fun left σ A h h1 h2 h3 h4 => ih (l + 1) d left σ A (by omega) (by omega) (by omega) h1 h2 h3 h4) hL hb hR h hA
    refine ⟨υ, ?_, q2, q3⟩
    have a1 : ¬ nI l < nI 0 := by rw [nI_ltI (by omega) (by decide)]; omega
    have a2 : nI l < nI 12 := by rw [nI_ltI (by omega) (by decide)]; omega
    rw [f_8009_S]
    unfold F_8009
    rw [if_neg a1, if_pos a2, q1]
end
