/-! two readers: sums -/
section
variable {σ0 τ0 σ τ : px_M} {b pl bh κ v : Nat → Nat} {e K k n nr m ln : Nat} {B S C : Nat → Nat} {ts us : List Bool}
/-- one more on the stack -/
def psk (σ0 τ0 : px_M) (K : Nat) (pl bh κ v : Nat → Nat) (n : Nat) (B : Nat → Nat) (nr : Nat) (S : Nat → Nat) (ln k m : Nat) (us : List Bool) (σ' τ' : px_M) : Prop := ∃ k' C' m', ex σ0 τ0 K pl bh κ v n B nr S ln σ' τ' k' C' m' us ∧ k ≤ k' ∧ m' + k ≤ m + k'
theorem ded_x (h : ded σ0 τ0 σ τ) : ∃ f, f ≠ 0 ∧ f < 5 ∧ τ.1 0 11 = nI f := by
  obtain ⟨-, f, p, h1, h2, -, h3, -⟩ := h
  exact ⟨f, h1, h2, h3⟩
/-- loops of both in step -/
theorem j_loop {F1 : Int32 × px_M → Option ((Int32 × px_M) ⊕ (Int32 × px_M))} {F2 : px_M → Option (px_M ⊕ px_M)} (hdz : ∀ σ τ, ded σ0 τ0 σ τ → F2 τ = some (.inr τ)) (hst : ∀ i σ τ k C m, ex σ0 τ0 K pl bh κ v n B nr S ln σ τ k C m us → i ≤ k → m ≤ k → (F1 (nI i, σ) = some (.inr (nI 1, σ)) ∧ F2 τ = some (.inr τ)) ∨ (∃ σ' τ' k' C' m', F1 (nI i, σ) = some (.inl (nI (i + 1), σ')) ∧ F2 τ = some (.inl τ') ∧ ex σ0 τ0 K pl bh κ v n B nr S ln σ' τ' k' C' m' us ∧ k < k' ∧ m' + k ≤ m + k') ∨ ∃ σ' τ', F1 (nI i, σ) = some (.inr (nI 0, σ')) ∧ F2 τ = some (.inl τ') ∧ ded σ0 τ0 σ' τ') : ∀ j i σ τ k C m, K ≤ k + j → ex σ0 τ0 K pl bh κ v n B nr S ln σ τ k C m us → i ≤ k → m ≤ k → oc σ0 τ0 (lpO F1 (nI i, σ)) (lpO F2 τ) (psk σ0 τ0 K pl bh κ v n B nr S ln k m us) := by
  intro j
  induction j with
  | zero =>
    intro i σ τ k C m hj hex hi hm
    rcases hst i σ τ k C m hex hi hm with ⟨h1, h2⟩ | ⟨σ', τ', k', C', m', h1, h2, h3, h4, h5⟩ | ⟨σ', τ', h1, h2, h3⟩
    · exact Or.inl ⟨σ, τ, lp_end h1, lp_end h2, k, C, m, hex, Nat.le_refl _, Nat.le_refl _⟩
    · have := h3.1.2.1
      omega
    · exact Or.inr ⟨σ', τ', lp_end h1, by rw [lp_next h2]; exact lp_end (hdz σ' τ' h3), h3⟩
  | succ j ih =>
    intro i σ τ k C m hj hex hi hm
    rcases hst i σ τ k C m hex hi hm with ⟨h1, h2⟩ | ⟨σ', τ', k', C', m', h1, h2, h3, h4, h5⟩ | ⟨σ', τ', h1, h2, h3⟩
    · exact Or.inl ⟨σ, τ, lp_end h1, lp_end h2, k, C, m, hex, Nat.le_refl _, Nat.le_refl _⟩
    · rw [lp_next h1, lp_next h2]
      rcases ih (i + 1) σ' τ' k' C' m' (by omega) h3 (by omega) (by omega) with ⟨σ2, τ2, y1, y2, k2, C2, m2, y3, y4, y5⟩ | h
      · exact Or.inl ⟨σ2, τ2, y1, y2, k2, C2, m2, y3, by omega, by omega⟩
      · exact Or.inr h
    · exact Or.inr ⟨σ', τ', lp_end h1, by rw [lp_next h2]; exact lp_end (hdz σ' τ' h3), h3⟩
/-- a piece of both at the depth x, from stacks of a length -/
def pce (σ0 τ0 : px_M) (K : Nat) (pl bh κ v : Nat → Nat) (n : Nat) (B : Nat → Nat) (nr : Nat) (S : Nat → Nat) (ln : Nat) (fc : px_M → Nat → Int32 → Option (Int32 × px_M)) (fm : px_M → Nat → Int32 → Option px_M) (z : Bool) (x L : Nat) : Prop := ∀ σ τ k C m ts, ex σ0 τ0 K pl bh κ v n B nr S ln σ τ k C m ts → m ≤ k → ts.length ≤ L → oc σ0 τ0 (fc σ 150 (nI x)) (fm τ 0 (nI x)) (psk σ0 τ0 K pl bh κ v n B nr S ln k m (z :: ts))
theorem z_atom (g1 g2 g3 : px_M → Nat → Int32 → Option px_M) {f : Nat} (hf : f ≠ 0) (hf5 : f < 5) (h : τ.1 0 11 = nI f) (x : Int32) : F_21 tT g1 g2 g3 τ 0 x = some τ := by
  have a : ¬ nI f = nI 0 := by rw [nI_eq (by omega) (by omega)]; exact hf
  unfold F_21 f_21_42 f_21_88
  simp only [la_0, z_is hf hf5 h, z_eats hf hf5 h, z_fails hf hf5 h, h, a, gd_tt, oA_arr, px_obj_s, Option.bind_some, Option.map_some, Option.bind_none, eq_self, true_or, or_true, px_av_0, px_av_1, px_av_2, px_av_10, px_av_11, bn, wi_1, wi_2, wl_1, wl_21, wl_22, wr_1, wr_21, wr_22, Sum.elim_inl, Sum.elim_inr, ↓reduceIte, Nat.reduceLT, Nat.reduceLeDiff, not_false_eq_true, not_true_eq_false, Nat.reduceEqDiff, Nat.reduceAdd, reduceCtorEq, and_true, true_and, and_false, false_and, false_or, or_false]
theorem z_term {d : Nat} {f : Nat} (hf : f ≠ 0) (hf5 : f < 5) (h : τ.1 0 11 = nI f) (x : Int32) : f_22 tT (d + 2) τ 0 x = some τ := by
  have e1 : f_21 tT (d + 1) τ 0 x = some τ := by rw [f_21_S]; exact z_atom _ _ _ hf hf5 h x
  rw [f_22_S]
  unfold F_22 f_22_5
  have e2 : F_22_5 tT (f_21 tT (d + 1)) (f_22 tT (d + 1)) (f_23 tT (d + 1)) 0 x τ = some (.inr τ) := by
    unfold F_22_5
    simp only [la_0, z_eats hf hf5 h, gd_tt, oA_arr, px_obj_s, Option.bind_some, Option.map_some, Option.bind_none, eq_self, true_or, or_true, px_av_0, px_av_1, px_av_2, px_av_10, px_av_11, bn, wi_1, wi_2, wl_1, wl_21, wl_22, wr_1, wr_21, wr_22, Sum.elim_inl, Sum.elim_inr, ↓reduceIte, Nat.reduceLT, Nat.reduceLeDiff, not_false_eq_true, not_true_eq_false, Nat.reduceEqDiff, Nat.reduceAdd, reduceCtorEq, and_true, true_and, and_false, false_and, false_or, or_false]
  simp only [la_0, e1, lp_end e2, gd_tt, oA_arr, px_obj_s, Option.bind_some, Option.map_some, Option.bind_none, eq_self, true_or, or_true, px_av_0, px_av_1, px_av_2, px_av_10, px_av_11, bn, wi_1, wi_2, wl_1, wl_21, wl_22, wr_1, wr_21, wr_22, Sum.elim_inl, Sum.elim_inr, ↓reduceIte, Nat.reduceLT, Nat.reduceLeDiff, not_false_eq_true, not_true_eq_false, Nat.reduceEqDiff, Nat.reduceAdd, reduceCtorEq, and_true, true_and, and_false, false_and, false_or, or_false]
theorem z_sum {d : Nat} {f : Nat} (hf : f ≠ 0) (hf5 : f < 5) (h : τ.1 0 11 = nI f) (x : Int32) : f_23 tT (d + 3) τ 0 x = some τ := by
  have e1 : f_22 tT (d + 2) τ 0 x = some τ := z_term hf hf5 h x
  rw [f_23_S]
  unfold F_23 f_23_5
  have e2 : F_23_5 tT (f_21 tT (d + 2)) (f_22 tT (d + 2)) (f_23 tT (d + 2)) 0 x τ = some (.inr τ) := by
    unfold F_23_5
    simp only [la_0, z_is hf hf5 h, gd_tt, oA_arr, px_obj_s, Option.bind_some, Option.map_some, Option.bind_none, eq_self, true_or, or_true, px_av_0, px_av_1, px_av_2, px_av_10, px_av_11, bn, wi_1, wi_2, wl_1, wl_21, wl_22, wr_1, wr_21, wr_22, Sum.elim_inl, Sum.elim_inr, ↓reduceIte, Nat.reduceLT, Nat.reduceLeDiff, not_false_eq_true, not_true_eq_false, Nat.reduceEqDiff, Nat.reduceAdd, reduceCtorEq, and_true, true_and, and_false, false_and, false_or, or_false]
  simp only [la_0, e1, lp_end e2, gd_tt, oA_arr, px_obj_s, Option.bind_some, Option.map_some, Option.bind_none, eq_self, true_or, or_true, px_av_0, px_av_1, px_av_2, px_av_10, px_av_11, bn, wi_1, wi_2, wl_1, wl_21, wl_22, wr_1, wr_21, wr_22, Sum.elim_inl, Sum.elim_inr, ↓reduceIte, Nat.reduceLT, Nat.reduceLeDiff, not_false_eq_true, not_true_eq_false, Nat.reduceEqDiff, Nat.reduceAdd, reduceCtorEq, and_true, true_and, and_false, false_and, false_or, or_false]
end
