/-! the most guests: class and model -/
section
variable {σ : px_M} {t n : Nat} {B : Nat → Nat}
theorem fwo_max : ∀ {j b : Nat}, fwo n B 0 j = some b → fe n B b = true ∧ ∀ I, I < j → fe n B I = true → bc 11 I ≤ bc 11 b := by
  intro j
  induction j with
  | zero => intro b h; cases h
  | succ j ih =>
    intro b h
    simp only [fwo, Nat.and_zero, true_and] at h
    cases hq : fwo n B 0 j with
    | none =>
      rw [hq] at h
      simp only at h
      by_cases hf : fe n B j = true
      · rw [if_pos hf] at h
        cases h
        refine ⟨hf, fun I hI hfI => ?_⟩
        by_cases hIj : I = j
        · rw [hIj]; exact Nat.le_refl _
        · obtain ⟨c, hc⟩ := fwo_ex (n := n) (B := B) fe_0 (j := j) (by omega)
          rw [hq] at hc; cases hc
      · rw [if_neg hf] at h; cases h
    | some c =>
      rw [hq] at h
      simp only at h
      obtain ⟨i1, i2⟩ := ih hq
      by_cases hf : bc 11 c < bc 11 j ∧ fe n B j = true
      · rw [if_pos hf] at h
        cases h
        refine ⟨hf.2, fun I hI hfI => ?_⟩
        by_cases hIj : I = j
        · rw [hIj]; exact Nat.le_refl _
        · have := i2 I (by omega) hfI
          omega
      · rw [if_neg hf] at h
        cases h
        refine ⟨i1, fun I hI hfI => ?_⟩
        by_cases hIj : I = j
        · subst hIj
          rcases Nat.lt_or_ge (bc 11 b) (bc 11 I) with q | q
          · exact absurd ⟨q, hfI⟩ hf
          · exact q
        · exact i2 I (by omega) hfI
theorem fe_apart (hw : wf n B) {x : Nat} (hx : x < 2 ^ n) : apart (RA B) 11 x ↔ fe n B x = true := by
  have hn := hw.1
  rw [fe_iff]
  constructor
  · intro h a ha hxa
    exact and_0iff.mpr (fun b ⟨h1, h2⟩ => h a b (by omega) (by have := tb_lt hx h2; omega) hxa h2 h1)
  · intro h a b ha hb hxa hxb hr
    exact and_0iff.mp (h a (tb_lt hx hxa) hxa) b ⟨hr, hxb⟩
/-- the size of the largest feast -/
def mgs (n : Nat) (B : Nat → Nat) : Nat := bc 11 ((fwo n B 0 (2 ^ n)).getD 0)
theorem mgs_some : ∃ b, fwo n B 0 (2 ^ n) = some b ∧ mgs n B = bc 11 b := by
  obtain ⟨b, hb⟩ := fwo_ex (n := n) (B := B) fe_0 (j := 2 ^ n) (Nat.two_pow_pos n)
  exact ⟨b, hb, by unfold mgs; rw [hb]; rfl⟩
theorem mgs_mxg (hw : wf n B) : mxg B (2 ^ n - 1) (mgs n B) := by
  have hn := hw.1
  have hp := pw_le hn
  obtain ⟨b, hb, e⟩ := mgs_some (n := n) (B := B)
  obtain ⟨h1, h2⟩ := fwo_max hb
  have hlt := fwo_lt hb
  rw [e]
  refine ⟨⟨b, by omega, sub_iff.mpr (fun x hx => by rw [tb_all, decide_eq_true (tb_lt hlt hx)]), (fe_apart hw hlt).mpr h1, rfl⟩, fun I hI hs ha => ?_⟩
  have hIl : I < 2 ^ n := lt_tb (fun i hi => by
    have := sub_iff.mp hs i hi
    rw [tb_all, decide_eq_true_eq] at this
    exact this)
  exact h2 I hIl ((fe_apart hw hIl).mp ha)
theorem c_mostGuests (hc : ct σ t n B) : f_3008 tT σ t = some (nI (mgs n B)) := by
  have hw := hc.2.2.2.1
  have hn := hw.1
  have hp0 := Nat.two_pow_pos n
  obtain ⟨a, q1, q2⟩ := c_3009 hc 11 (2 ^ n - 1) 24 0 (bc_le 11 _) (by omega) (by omega) (by omega)
  have := mxg_uniq q2 (mgs_mxg hw)
  subst this
  simp only [f_3008, hc.1, gd_tt, oA_arr, px_obj_s, Option.bind_some, Option.map_some, Option.bind_none, eq_self, true_or, or_true, px_av_0, px_av_1, px_av_2, px_av_10, px_av_11, bn, wi_1, wi_2, wl_1, wl_21, wl_22, wr_1, wr_21, wr_22, Sum.elim_inl, Sum.elim_inr, ↓reduceIte, Nat.reduceLT, Nat.reduceLeDiff, not_false_eq_true, not_true_eq_false, Nat.reduceEqDiff, Nat.reduceAdd, reduceCtorEq, and_true, true_and, and_false, false_and, false_or, or_false, c_all hc, q1]
end
