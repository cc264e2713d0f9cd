/-! ways, as the model counts them -/
theorem up_sL {f : Nat → Nat → Int64} {l i j : Nat} {v : Int64} : px_up f l i v l j = if j = i then v else f l j := by simp [px_up]
theorem Cn_none {p : Nat → Bool} {w : (Nat → Nat) → Nat} : ∀ {m : Nat} {κ : Nat → Nat}, (∃ x, x < m ∧ p x = true) → Cn 0 p m w κ = 0 := by
  intro m
  induction m with
  | zero => rintro κ ⟨x, hx, -⟩; omega
  | succ m ih =>
    rintro κ ⟨x, hx, hp⟩
    simp only [Cn]
    by_cases hm : p m = true
    · rw [if_pos hm]; rfl
    · rw [if_neg hm]
      refine ih ⟨x, ?_, hp⟩
      have : x ≠ m := fun z => hm (by rw [← z]; exact hp)
      omega
theorem Wy_none {R : Nat → Nat → Prop} {s : Nat} (hs : s < 2048) (h0 : s ≠ 0) : Wy R 11 s.testBit 0 = 0 := by
  unfold Wy
  refine Cn_none ?_
  apply Classical.byContradiction
  intro q
  apply h0
  apply tb_eq
  intro i
  rw [Nat.zero_testBit]
  constructor
  · intro z; exact absurd ⟨i, tb_lt (n := 11) hs z, z⟩ q
  · intro z; cases z
/-- one subset's share -/
noncomputable def sh (B : Nat → Nat) (c s I : Nat) : Nat := ic ((∀ x, x < 11 → I.testBit x = true → s.testBit x = true) ∧ apart (RA B) 11 I) * Wy (RA B) 11 (wih s.testBit I) c
section
variable {σ τ : px_M} {n k c s : Nat} {B : Nat → Nat}
theorem sh_all : Wy (RA B) 11 s.testBit (c + 1) = sm (fun I => sh B c s I) 2048 := Wy_S
theorem sub_and {I s : Nat} (hI : I < 2048) (h : ∀ x, x < 11 → I.testBit x = true → s.testBit x = true) : I &&& s = I := by
  apply tb_eq
  intro i
  rw [Nat.testBit_and, Bool.and_eq_true]
  exact ⟨fun q => q.1, fun q => ⟨q, h i (tb_lt (n := 11) hI q) q⟩⟩
theorem sh_no {I : Nat} (h : ¬ ∀ x, x < 11 → I.testBit x = true → s.testBit x = true) : sh B c s I = 0 := by
  unfold sh
  rw [ic_f (fun q => h q.1), Nat.zero_mul]
theorem sh_0 : sh B c s 0 = Wy (RA B) 11 s.testBit c := by
  unfold sh
  have h0 : (∀ x, x < 11 → Nat.testBit 0 x = true → s.testBit x = true) ∧ apart (RA B) 11 0 := by
    constructor
    · intro x _ h
      rw [Nat.zero_testBit] at h
      cases h
    · intro x y _ _ h
      rw [Nat.zero_testBit] at h
      cases h
  rw [ic_t h0, Nat.one_mul]
  exact Wy_congr (fun x _ => by unfold wih; rw [Nat.zero_testBit]; simp) (fun _ _ _ _ _ _ => Iff.rfl)
/-- the shares of those above x -/
noncomputable def ta (B : Nat → Nat) (c s x : Nat) : Nat := sh B c s 0 + sm (fun I => if x < I then sh B c s I else 0) 2048
theorem ta_s (hs : s < 2048) : ta B c s s = Wy (RA B) 11 s.testBit c := by
  unfold ta
  rw [sh_0, sm_congr (g := fun _ => 0) (fun I hI => ?_), sm_0, Nat.add_zero]
  by_cases h : s < I
  · rw [if_pos h]
    refine sh_no (fun q => ?_)
    have h1 := sub_and hI q
    have : I &&& s ≤ s := Nat.and_le_right
    omega
  · rw [if_neg h]
theorem ta_step {x : Nat} (hs : s < 2048) (hx : x &&& s = x) (h0 : 0 < x) : ta B c s ((x - 1) &&& s) = ta B c s x + sh B c s x := by
  have hxs : x ≤ s := by rw [← hx]; exact Nat.and_le_right
  have hy : (x - 1) &&& s ≤ x - 1 := Nat.and_le_left
  have e1 := sm_ic (show x < 2048 by omega) (fun I => sh B c s I)
  unfold ta
  rw [Nat.add_assoc, ← e1, ← sm_add]
  refine congrArg (fun z => sh B c s 0 + z) (sm_congr (fun I hI => ?_))
  by_cases h1 : x = I
  · subst h1
    rw [ic_t rfl, Nat.mul_one, if_pos (by omega), if_neg (by omega), Nat.zero_add]
  · rw [ic_f h1, Nat.mul_zero, Nat.add_zero]
    by_cases h2 : x < I
    · rw [if_pos h2, if_pos (by omega)]
    · rw [if_neg h2]
      by_cases h3 : (x - 1) &&& s < I
      · rw [if_pos h3]
        refine sh_no (fun q => ?_)
        have := sub_pred s x I hx (sub_and hI q) (by omega)
        omega
      · rw [if_neg h3]
theorem ta_0 : ta B c s 0 = Wy (RA B) 11 s.testBit (c + 1) := by
  have e1 := sm_ic (show 0 < 2048 by omega) (fun I => sh B c s I)
  rw [sh_all]
  unfold ta
  rw [← e1, ← sm_add]
  refine sm_congr (fun I hI => ?_)
  by_cases h1 : 0 = I
  · subst h1
    rw [ic_t rfl, Nat.mul_one, if_neg (by omega), Nat.add_zero]
  · rw [ic_f h1, Nat.mul_zero, Nat.zero_add, if_pos (by omega)]
theorem sh_fe (hw : wf n B) {x : Nat} (hs : s < 2 ^ n) (hx : x &&& s = x) : sh B c s x = if fe n B x = true then Wy (RA B) 11 (nd s x).testBit c else 0 := by
  have hn := hw.1
  have hp := pw_le hn
  have hxs : x ≤ s := by rw [← hx]; exact Nat.and_le_right
  have hsub : ∀ y, y < 11 → x.testBit y = true → s.testBit y = true := fun y _ h => by
    rw [← hx, Nat.testBit_and, Bool.and_eq_true] at h
    exact h.2
  have hap : apart (RA B) 11 x ↔ fe n B x = true := by
    rw [fe_iff]
    constructor
    · intro h a ha hxa
      exact and_0iff.mpr (fun b ⟨h1, h2⟩ => h a b (by omega) (by have := tb_lt (n := n) (by omega) h2; omega) hxa h2 h1)
    · intro h a b ha hb hxa hxb hr
      exact and_0iff.mp (h a (tb_lt (n := n) (by omega) hxa) hxa) b ⟨hr, hxb⟩
  unfold sh
  by_cases hf : fe n B x = true
  · rw [if_pos hf, ic_t ⟨hsub, hap.mpr hf⟩, Nat.one_mul]
    exact Wy_congr (fun y _ => by unfold wih; rw [nd_tb (by omega)]) (fun _ _ _ _ _ _ => Iff.rfl)
  · rw [if_neg hf, ic_f (fun q => hf (hap.mp q.2)), Nat.zero_mul]
theorem e_share {x1 x2 : Int32} (hm : mo σ n B) (hs : s < 2 ^ n) (h23 : ∀ t, t < 2 ^ n → σ.2.1 23 t = lN (Wy (RA B) 11 t.testBit c)) (h24 : σ.2.1 24 s = lN (Wy (RA B) 11 s.testBit c)) : ∃ b, f_93_92 tT 0 x1 x2 (nI s) (nI s) σ = some b ∧ ∃ υ, b = .inl (nI (s + 1), υ) ∧ fr (on 24) σ υ ∧ υ.2.1 24 s = lN (Wy (RA B) 11 s.testBit (c + 1)) ∧ ∀ t, t ≠ s → υ.2.1 24 t = σ.2.1 24 t := by
  have hw := hm.2.1
  have hn := hw.1
  have hp := pw_le hn
  unfold f_93_92
  refine lp_rel (F := fun q : Int32 × px_M => F_93_92 tT 0 x1 x2 (nI s) q.1 q.2) (fun j q => ∃ x, q.1 = nI x ∧ x + j ≤ s ∧ x &&& s = x ∧ fr (on 24) σ q.2 ∧ q.2.2.1 24 s = lN (ta B c s x) ∧ ∀ t, t ≠ s → q.2.2.1 24 t = σ.2.1 24 t) (fun b => ∃ υ, b = .inl (nI (s + 1), υ) ∧ fr (on 24) σ υ ∧ υ.2.1 24 s = lN (Wy (RA B) 11 s.testBit (c + 1)) ∧ ∀ t, t ≠ s → υ.2.1 24 t = σ.2.1 24 t) s (fun j q hj hI => ?_) 0 (nI s, σ) (by omega) ⟨s, rfl, by omega, Nat.and_self s, fr_rf _ _, by rw [ta_s (by omega)]; exact h24, fun _ _ => rfl⟩
  obtain ⟨y, ρ⟩ := q
  obtain ⟨x, hx, g1, g2, g3, g4, g5⟩ := hI
  dsimp only at hx g3 g4 g5
  subst hx
  have hmρ := mo_on (by decide) g3 hm
  obtain ⟨hR, -, e1, -⟩ := id hmρ
  by_cases hx0 : x = 0
  · subst hx0
    right
    refine ⟨.inl (nI (s + 1), ρ), ?_, ρ, rfl, g3, by rw [g4, ta_0], g5⟩
    simp (disch := omega) only [F_93_92, gd_tt, oA_arr, px_obj_s, Option.bind_some, Option.map_some, Option.bind_none, eq_self, true_or, or_true, px_av_0, px_av_1, px_av_2, px_av_10, px_av_11, bn, wi_1, wi_2, wl_1, wl_21, wl_22, wr_1, wr_21, wr_22, Sum.elim_inl, Sum.elim_inr, ↓reduceIte, Nat.reduceLT, Nat.reduceLeDiff, not_false_eq_true, not_true_eq_false, Nat.reduceEqDiff, Nat.reduceAdd, reduceCtorEq, and_true, true_and, and_false, false_and, false_or, or_false, true_and, and_true, ni_divL, ni_subL, nI_add, pk_mul, nI_leI, nI_ltI, nI_eq, vp_in_eq, nI_clamp, ↓ni_tst, ni_tst2, fa_and, fa_or, ni_bit1, ni_1s, nI_l, mb_eq0, mb_ne0, mb_eq1, gd_tt, gd_t, bft]
  · left
    have hx1 : ¬ x ≤ 0 := by omega
    have ef := e_isFeast hmρ (show x < 2048 by omega)
    have hta := ta_step (B := B) (c := c) (show s < 2048 by omega) g2 (by omega)
    have hfe := sh_fe (c := c) hw hs g2
    have hy : (x - 1) &&& s ≤ x - 1 := Nat.and_le_left
    have hy2 : ((x - 1) &&& s) &&& s = (x - 1) &&& s := by rw [Nat.and_assoc, Nat.and_self]
    have a1 : nI x - nI 1 = nI (x - 1) := ni_subL (by omega)
    have a2 : ¬ nI x ≤ nI 0 := by rw [nI_leI (by omega) (by decide)]; exact hx1
    cases hf : fe n B x with
    | false =>
      rw [hf] at ef hfe
      rw [if_neg (by simp)] at hfe
      rw [hfe, Nat.add_zero] at hta
      refine ⟨(nI ((x - 1) &&& s), ρ), ?_, by omega, (x - 1) &&& s, rfl, by omega, hy2, g3, by rw [hta]; exact g4, g5⟩
      unfold F_93_92 f_93_126
      simp only [a2, la_0, gd_tt, oA_arr, px_obj_s, Option.bind_some, Option.map_some, Option.bind_none, eq_self, true_or, or_true, px_av_0, px_av_1, px_av_2, px_av_10, px_av_11, bn, wi_1, wi_2, wl_1, wl_21, wl_22, wr_1, wr_21, wr_22, Sum.elim_inl, Sum.elim_inr, ↓reduceIte, Nat.reduceLT, Nat.reduceLeDiff, not_false_eq_true, not_true_eq_false, Nat.reduceEqDiff, Nat.reduceAdd, reduceCtorEq, and_true, true_and, and_false, false_and, false_or, or_false, ef, mb_f, a1, fa_and]
      try rfl
    | true =>
      rw [hf] at ef hfe
      rw [if_pos rfl] at hfe
      have hnd : nd s x ≤ s := Nat.and_le_left
      have hr := h23 (nd s x) (by omega)
      rw [← g3.2.1 23 _ (by simp [on])] at hr
      have b1 : vp_in (nI s) 2048 := (vp_in_eq (by omega)).mpr (by omega)
      have b2 : vp_in (nI (nd s x)) 2048 := (vp_in_eq (by omega)).mpr (by omega)
      have b3 : (nI s).toNatClampNeg = s := nI_clamp (by omega)
      have b4 : (nI (nd s x)).toNatClampNeg = nd s x := nI_clamp (by omega)
      refine ⟨(nI ((x - 1) &&& s), px_wl ρ 24 s (lN (ta B c s x) + lN (sh B c s x))), ?_, by omega, (x - 1) &&& s, rfl, by omega, hy2, fr_wl g3 _ (on_t _ _), ?_, fun t ht => ?_⟩
      · rw [hfe]
        unfold F_93_92 f_93_126
        simp only [a2, la_0, la_23, la_24, rm_0_23 hR, rm_0_24 hR, gd_tt, oA_arr, px_obj_s, Option.bind_some, Option.map_some, Option.bind_none, eq_self, true_or, or_true, px_av_0, px_av_1, px_av_2, px_av_10, px_av_11, bn, wi_1, wi_2, wl_1, wl_21, wl_22, wr_1, wr_21, wr_22, Sum.elim_inl, Sum.elim_inr, ↓reduceIte, Nat.reduceLT, Nat.reduceLeDiff, not_false_eq_true, not_true_eq_false, Nat.reduceEqDiff, Nat.reduceAdd, reduceCtorEq, and_true, true_and, and_false, false_and, false_or, or_false, ef, mb_t, a1, fa_and, ni_nd (show s < 2048 by omega), b1, b2, b3, b4, hr, g4]
        try rfl
      · show px_up ρ.2.1 24 _ _ 24 _ = _
        rw [up_sL, if_pos rfl, hta, lN_add]
      · show px_up ρ.2.1 24 _ _ 24 _ = _
        rw [up_sL, if_neg ht]; exact g5 t ht
end
