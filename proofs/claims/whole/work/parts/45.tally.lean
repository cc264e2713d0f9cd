/-! the class counts the ways: the rounds -/
section
variable {σ : px_M} {l k : Nat} {A : Nat → Nat}
theorem Wy_0 (R : Nat → Nat → Prop) (k : Nat) : Wy R 11 (Nat.testBit 0) k = 1 := by
  have h0 : ∀ m (w : (Nat → Nat) → Nat) κ, Cn k (Nat.testBit 0) m w κ = w κ := by
    intro m w
    induction m with
    | zero => intro κ; rfl
    | succ m ih =>
      intro κ
      simp only [Cn]
      rw [if_neg (by rw [Nat.zero_testBit]; simp), ih]
  unfold Wy
  rw [h0, ic_t]
  intro x y _ _ hx
  rw [Nat.zero_testBit] at hx
  cases hx
theorem c_rounds (g : px_M → Nat → Int32 → Int32 → Int32 → Option (Int64 × px_M)) (hk : k ≤ 6) (hl : l < 12) {m : Nat} (hlm : l + m ≤ 11) (Hg : ∀ left (σ : px_M) A, bc 11 left + 1 ≤ m → left < 2048 → cR σ.2.2 → lvl σ (l + 1) A → sy A → ∃ υ, g σ 170 (nI (l + 1)) (nI left) (nI k) = some (lN (Wy (RA A) 11 left.testBit k), υ) ∧ fr (on 172) σ υ ∧ ∀ i, i < (l + 1) * 11 → υ.1 172 i = σ.1 172 i) {left : Nat} (hL : left < 2048) (hm : bc 11 left ≤ m) (hR : cR σ.2.2) (h : lvl σ l A) (hA : sy A) : ∃ b, f_8009_24 tT g 170 (nI l) (nI k) (nI left) (lN 0) (lN 1) (nI 0) σ = some b ∧ ∃ υ, b = (lN (Wy (RA A) 11 left.testBit k), υ) ∧ fr (on 172) σ υ ∧ ∀ i, i < l * 11 → υ.1 172 i = σ.1 172 i := by
  obtain ⟨V, hV⟩ : ∃ V, V = Wy (RA A) 11 left.testBit k := ⟨_, rfl⟩
  rw [← hV]
  have h6 : (6 : Nat) ^ 11 = 362797056 := by decide
  unfold f_8009_24
  refine lp_rel (F := fun s : Int32 × Int64 × Int64 × Int32 × px_M => F_8009_24 tT g 170 (nI l) (nI k) s.1 s.2.1 s.2.2.1 s.2.2.2.1 s.2.2.2.2) (fun j q => ∃ le tot f ρ D, q = (nI le, lN tot, lN f, nI j, ρ) ∧ fr (on 172) σ ρ ∧ (∀ i, i < l * 11 → ρ.1 172 i = σ.1 172 i) ∧ lvl ρ l D ∧ sy D ∧ le < 2048 ∧ bc 11 le ≤ m ∧ tot + f * Wy (RA D) 11 le.testBit k = V ∧ 0 < f ∧ f ≤ 6 ^ (11 - bc 11 le) ∧ 2 * j + 2 * bc 11 le ≤ 22 + dg D) (fun b => ∃ υ, b = (lN V, υ) ∧ fr (on 172) σ υ ∧ ∀ i, i < l * 11 → υ.1 172 i = σ.1 172 i) 100 (fun j q hj hI => ?_) 0 (nI left, lN 0, lN 1, nI 0, σ) (by omega) ⟨left, 0, 1, σ, A, rfl, fr_rf _ _, fun _ _ => rfl, h, hA, hL, hm, by rw [hV, Nat.one_mul, Nat.zero_add], by decide, Nat.pow_pos (by decide), by have := bc_le 11 left; omega⟩
  obtain ⟨le, tot, f, ρ, D, rfl, g1, g2, g3, g4, g5, g6, g7, g8, g9, g10⟩ := hI
  have hRρ := cR_fr g1 hR
  have hdg := dg_le g4
  have hj2 : ¬ 100 ≤ j := by omega
  have hf6 : f ≤ 6 ^ 11 := Nat.le_trans g9 (Nat.pow_le_pow_right (by decide) (by omega))
  dsimp only
  by_cases hz : le = 0
  · subst hz
    right
    refine ⟨(lN (tot + f), ρ), ?_, ρ, ?_, g1, g2⟩
    · simp (disch := omega) only [F_8009_24, f_8009_209, lN_add, gd_tt, oA_arr, px_obj_s, Option.bind_some, Option.map_some, Option.bind_none, eq_self, true_or, or_true, px_av_0, px_av_1, px_av_2, px_av_10, px_av_11, bn, wi_1, wi_2, wl_1, wl_21, wl_22, wr_1, wr_21, wr_22, Sum.elim_inl, Sum.elim_inr, ↓reduceIte, Nat.reduceLT, Nat.reduceLeDiff, not_false_eq_true, not_true_eq_false, Nat.reduceEqDiff, Nat.reduceAdd, reduceCtorEq, and_true, true_and, and_false, false_and, false_or, or_false, true_and, and_true, ni_divL, ni_subL, nI_add, pk_mul, nI_leI, nI_ltI, nI_eq, vp_in_eq, nI_clamp, ↓ni_tst, ni_tst2, fa_and, fa_or, ni_bit1, ni_1s, nI_l, mb_eq0, mb_ne0, mb_eq1, gd_tt, gd_t, bft, hj2]
    · rw [← g7, Wy_0, Nat.mul_one]
  · obtain ⟨x, x1, x2, x3⟩ := c_8012 hRρ g3 g4 hl g5 hz
    have k1 := c_8010 hRρ g3 hl x3
    have hN : D x &&& le < 2048 := and_lt (g4.1 x)
    have hNt : ∀ y, (D x &&& le).testBit y = true ↔ le.testBit y = true ∧ RA D x y := fun y => by
      rw [Nat.testBit_and, Bool.and_eq_true]
      exact ⟨fun z => ⟨z.2, z.1⟩, fun z => ⟨z.2, z.1⟩⟩
    have hbn := bc_nd g5 x3 x2
    obtain ⟨r, r1, r2⟩ := c_8013 hRρ g3 hl hN
    rcases r2 with ⟨hr, r2⟩ | ⟨u, v, huv, hv, hu1, hv1, hno, hr⟩
    · subst hr
      have hg : bc 11 (D x &&& le) ≤ 11 := bc_le 11 _
      have hone : Wy (RA D) 11 le.testBit k = (k - bc 11 (D x &&& le)) * Wy (RA D) 11 (nd le (2 ^ x)).testBit k := by
        rw [Wy_one (N := (D x &&& le).testBit) x3 x2 (fun a b => g4.2.1 a b) (by unfold RA; rw [g4.2.2.1 x]; simp) (fun y _ => hNt y) (fun a b ha hb hNa hNb hab => ?_), bc_sm]
        · congr 1
          exact Wy_congr (fun y _ => woh_nd g5 y) (fun _ _ _ _ _ _ => Iff.rfl)
        · rcases Nat.lt_or_ge a b with q | q
          · exact r2 a b ha hb q hNa hNb
          · exact g4.2.1 _ _ (r2 b a hb ha (by omega) hNb hNa)
      obtain ⟨f1, f2⟩ := fac hf6 hk hg
      have hbc := e_bitCount ρ hN
      generalize bc 11 (D x &&& le) = dgr at hone f1 f2 hbc hg
      have hF : F_8009_24 tT g 170 (nI l) (nI k) (nI le) (lN tot) (lN f) (nI j) ρ = if lN 0 < lN f * (nI k - nI dgr).toInt64 then some (.inl (nI (nd le (2 ^ x)), lN tot, lN f * (nI k - nI dgr).toInt64, nI (j + 1), ρ)) else some (.inr (lN tot, ρ)) := by
        generalize lN f * (nI k - nI dgr).toInt64 = X at f1 f2
        sorry
      by_cases hpos : 0 < f * (k - dgr)
      · left
        have hgk : dgr ≤ k := by
          rcases Nat.lt_or_ge k dgr with q | q
          · rw [show k - dgr = 0 by omega, Nat.mul_zero] at hpos; omega
          · exact q
        rw [hF, if_pos (f1.mpr hpos), f2 hgk]
        refine ⟨_, rfl, by omega, nd le (2 ^ x), tot, f * (k - dgr), ρ, D, rfl, g1, g2, g3, g4, nd_lt g5, by omega, ?_, hpos, ?_, by omega⟩
        · rw [← g7, hone, Nat.mul_assoc]
        · have hb := bc_le 11 le
          rw [show 11 - bc 11 (nd le (2 ^ x)) = (11 - bc 11 le) + 1 by omega, Nat.pow_succ]
          exact Nat.mul_le_mul g9 (by omega)
      · right
        rw [hF, if_neg (fun z => hpos (f1.mp z))]
        refine ⟨_, rfl, ρ, ?_, g1, g2⟩
        rw [← g7, hone, ← Nat.mul_assoc, show f * (k - dgr) = 0 by omega, Nat.zero_mul, Nat.add_zero]
    · sorry
end
