/-! ways: class and model alike -/
def agL (σ : px_M) (fc : Option (Int64 × px_M)) (fm : px_M → Option (Int64 × px_M)) (n : Nat) (B : Nat → Nat) : Prop := ∃ r σ', fc = some (r, σ') ∧ fr SC σ σ' ∧ ∀ τ, mo τ n B → ∃ υ, fm τ = some (r, υ) ∧ fr SM τ υ
section
variable {σ τ : px_M} {n k : Nat} {B : Nat → Nat}
theorem wf_sy (hw : wf n B) : sy B := ⟨fun x => wf_2048 hw x, fun x y h => by rw [← hw.2.2.2.1 x y]; exact h, hw.2.2.2.2, fun x hx => hw.2.2.1 x (by have := hw.1; omega)⟩
theorem c_8008 (hc : cl σ n B) (hk : k ≤ 6) : ∃ b, f_8008 tT σ 170 111 (nI k) = some b ∧ ∃ υ, b = (lN (Wy (RA B) 11 (2 ^ n - 1).testBit k), υ) ∧ fr (on 172) σ υ := by
  obtain ⟨hR, ht⟩ := hc
  have hw := ht.2.2.2.1
  have hn := hw.1
  have hal2 := al_lt hn
  obtain ⟨V, hV⟩ : ∃ V, V = Wy (RA B) 11 (2 ^ n - 1).testBit k := ⟨_, rfl⟩
  rw [← hV]
  unfold f_8008 f_8008_2
  refine lp_for (F := fun s : Int32 × px_M => F_8008_2 tT 170 111 (nI k) s.1 s.2) (fun j q => q.1 = nI j ∧ fr (on 172) σ q.2 ∧ ∀ x, x < j → q.2.1 172 (0 * 11 + x) = nI (B x)) (fun b => ∃ υ, b = (lN V, υ) ∧ fr (on 172) σ υ) 11 (fun j q hj hI => ?_) (fun q hI => ?_) 0 (nI 0, σ) (by omega) ⟨rfl, fr_rf _ _, fun x hx => absurd hx (by omega)⟩
  · obtain ⟨x, ρ⟩ := q
    obtain ⟨hx, g1, g2⟩ := hI
    dsimp only at hx g1 g2
    subst hx
    have hRρ := cR_fr g1 hR
    have htρ : ct ρ 111 n B := ct_fr g1 (fun j => by simp [on]) (fun j => by simp [on]) ht
    obtain ⟨l1, l2, hr, -, h1, hnb⟩ := htρ
    have hj2 : ¬ 11 ≤ j := by omega
    have hj3 : j < 132 := by omega
    refine ⟨(nI (j + 1), px_wi ρ 172 j (nI (B j))), ?_, rfl, fr_wi g1 _ (on_t _ _), fun x hx => ?_⟩
    · simp (disch := omega) only [F_8008_2, la_100, la_102, la_103, la_104, la_105, la_110, la_111, la_112, la_113, la_114, la_115, la_116, la_117, la_120, la_121, la_122, la_123, la_124, la_125, la_126, la_127, la_130, la_131, la_132, la_133, la_134, la_135, la_136, la_137, la_140, la_141, la_142, la_143, la_144, la_145, la_146, la_147, la_150, la_151, la_152, la_153, la_160, la_161, la_170, la_171, la_172, la_173, la_174, la_180, la_181, la_182, la_183, la_184, la_185, la_186, la_190, la_191, la_192, la_193, la_194, la_195, la_200, la_201, la_202, la_210, la_211, la_212, la_213, la_214, la_215, la_216, la_217, la_218, la_219, la_220, la_221, la_222, la_223, la_224, la_225, la_226, la_230, la_231, la_232, la_233, la_234, la_240, la_241, l1, l2, hr, rc_170_1 hRρ, gd_tt, oA_arr, px_obj_s, Option.bind_some, Option.map_some, Option.bind_none, eq_self, true_or, or_true, px_av_0, px_av_1, px_av_2, px_av_10, px_av_11, bn, wi_1, wi_2, wl_1, wl_21, wl_22, wr_1, wr_21, wr_22, Sum.elim_inl, Sum.elim_inr, ↓reduceIte, Nat.reduceLT, Nat.reduceLeDiff, not_false_eq_true, not_true_eq_false, Nat.reduceEqDiff, Nat.reduceAdd, reduceCtorEq, and_true, true_and, and_false, false_and, false_or, or_false, true_and, and_true, ni_divL, ni_subL, nI_add, pk_mul, nI_leI, nI_ltI, nI_eq, vp_in_eq, nI_clamp, ↓ni_tst, ni_tst2, fa_and, fa_or, ni_bit1, ni_1s, nI_l, mb_eq0, mb_ne0, mb_eq1, gd_tt, gd_t, bft, hnb, hj2, hj, hj3]
    · show px_up ρ.1 172 _ _ 172 _ = _
      rw [up_s]
      by_cases hxj : x = j
      · subst hxj; rw [if_pos (by omega)]
      · rw [if_neg (by omega)]; exact g2 x (by omega)
  · obtain ⟨x, ρ⟩ := q
    obtain ⟨hx, g1, g2⟩ := hI
    dsimp only at hx g1 g2
    subst hx
    have hRρ := cR_fr g1 hR
    have htρ : ct ρ 111 n B := ct_fr g1 (fun j => by simp [on]) (fun j => by simp [on]) ht
    obtain ⟨υ, q1, q2, -⟩ := c_8009 hk 11 0 24 (2 ^ n - 1) ρ B (by omega) (by omega) (bc_le 11 _) hal2 hRρ (fun x hx => g2 x hx) (wf_sy hw)
    rw [← hV] at q1
    refine ⟨(lN V, υ), ?_, υ, rfl, fr_tr g1 q2⟩
    have h11 : nI 11 ≤ nI 11 := by decide
    unfold F_8008_2
    simp only [h11, ↓reduceIte, la_100, la_102, la_103, la_104, la_105, la_110, la_111, la_112, la_113, la_114, la_115, la_116, la_117, la_120, la_121, la_122, la_123, la_124, la_125, la_126, la_127, la_130, la_131, la_132, la_133, la_134, la_135, la_136, la_137, la_140, la_141, la_142, la_143, la_144, la_145, la_146, la_147, la_150, la_151, la_152, la_153, la_160, la_161, la_170, la_171, la_172, la_173, la_174, la_180, la_181, la_182, la_183, la_184, la_185, la_186, la_190, la_191, la_192, la_193, la_194, la_195, la_200, la_201, la_202, la_210, la_211, la_212, la_213, la_214, la_215, la_216, la_217, la_218, la_219, la_220, la_221, la_222, la_223, la_224, la_225, la_226, la_230, la_231, la_232, la_233, la_234, la_240, la_241, gd_tt, oA_arr, px_obj_s, Option.bind_some, Option.map_some, Option.bind_none, eq_self, true_or, or_true, px_av_0, px_av_1, px_av_2, px_av_10, px_av_11, bn, wi_1, wi_2, wl_1, wl_21, wl_22, wr_1, wr_21, wr_22, Sum.elim_inl, Sum.elim_inr, ↓reduceIte, Nat.reduceLT, Nat.reduceLeDiff, not_false_eq_true, not_true_eq_false, Nat.reduceEqDiff, Nat.reduceAdd, reduceCtorEq, and_true, true_and, and_false, false_and, false_or, or_false, c_all htρ, q1]
end
