/-! grow -/
theorem lp_end {α β : Type} {F : α → Option (α ⊕ β)} {a : α} {b : β} (h : F a = some (.inr b)) : lpO F a = some b := by rw [lpO_eq, h]; rfl
theorem lp_next {α β : Type} {F : α → Option (α ⊕ β)} {a a' : α} (h : F a = some (.inl a')) : lpO F a = lpO F a' := by rw [lpO_eq, h]; rfl
/-- the best set so far -/
noncomputable def gbf (n : Nat) (B : Nat → Nat) (nr : Nat) (S C : Nat → Nat) : Nat → Option Nat
  | 0 => none
  | j + 1 => match gbf n B nr S C j with
    | none => if re n B nr S C j = 0 then some j else none
    | some b => if re n B nr S C j = 0 ∧ bc 11 b < bc 11 j then some j else some b
section
variable {σ τ : px_M} {n nr d : Nat} {B S C : Nat → Nat} {G : Nat → Nat → Int32}
def gbp (n : Nat) (B : Nat → Nat) (nr : Nat) (S C : Nat → Nat) (j : Nat) (o : Option Nat) : Prop := match o with
  | none => ∀ s, s < j → ¬ re n B nr S C s = 0
  | some b => b < j ∧ re n B nr S C b = 0 ∧ (∀ s, s < j → re n B nr S C s = 0 → bc 11 s ≤ bc 11 b) ∧ ∀ s, s < b → re n B nr S C s = 0 → bc 11 s < bc 11 b
theorem gbf_p : ∀ j, gbp n B nr S C j (gbf n B nr S C j) := by
  intro j
  induction j with
  | zero => intro s hs; omega
  | succ j ih =>
    simp only [gbf]
    cases h : gbf n B nr S C j with
    | none =>
      rw [h] at ih
      by_cases q : re n B nr S C j = 0
      · rw [if_pos q]
        refine ⟨by omega, q, fun s hs hr => ?_, fun s hs hr => absurd hr (ih s hs)⟩
        by_cases z : s = j
        · subst z; exact Nat.le_refl _
        · exact absurd hr (ih s (by omega))
      · rw [if_neg q]
        intro s hs
        by_cases z : s = j
        · subst z; exact q
        · exact ih s (by omega)
    | some b =>
      rw [h] at ih
      obtain ⟨i1, i2, i3, i4⟩ := ih
      by_cases q : re n B nr S C j = 0 ∧ bc 11 b < bc 11 j
      · simp only [if_pos q]
        refine ⟨by omega, q.1, fun s hs hr => ?_, fun s hs hr => ?_⟩
        · by_cases z : s = j
          · subst z; exact Nat.le_refl _
          · have := i3 s (by omega) hr; omega
        · have := i3 s hs hr; omega
      · simp only [if_neg q]
        refine ⟨by omega, i2, fun s hs hr => ?_, i4⟩
        by_cases z : s = j
        · subst z
          have : ¬ bc 11 b < bc 11 s := fun w => q ⟨hr, w⟩
          omega
        · exact i3 s (by omega) hr
theorem gbp_uniq {j : Nat} {o o' : Option Nat} (h1 : gbp n B nr S C j o) (h2 : gbp n B nr S C j o') : o = o' := by
  cases o with
  | none =>
    cases o' with
    | none => rfl
    | some b => exact absurd h2.2.1 (h1 b h2.1)
  | some a =>
    cases o' with
    | none => exact absurd h1.2.1 (h2 a h1.1)
    | some b =>
      obtain ⟨a1, a2, a3, a4⟩ := h1
      obtain ⟨b1, b2, b3, b4⟩ := h2
      have e1 := a3 b b1 b2
      have e2 := b3 a a1 a2
      rcases Nat.lt_trichotomy a b with q | q | q
      · have := b4 a q a2; omega
      · rw [q]
      · have := a4 b q b2; omega
theorem re_fe {s : Nat} (h : re n B nr S C s = 0) : fe n B s = true := by
  unfold re at h
  by_cases q : n = 11
  · rw [if_pos q] at h; omega
  · rw [if_neg q] at h
    cases hf : fe n B s with
    | true => rfl
    | false => rw [hf, if_pos rfl] at h; omega
theorem e_gby (hm : mor σ n B nr S C) (hru : rul nr S C) : ∃ υ, f_76 tT σ 0 = some (oI (gbf n B nr S C (2 ^ n)), υ) ∧ fk RQ σ υ := by
  have hn := hm.1.2.1.1
  have hp := pw_le hn
  have hp0 := Nat.two_pow_pos n
  have k1 : vp_in (nI 1) 3216 := (vp_in_eq (by omega)).mpr (by omega)
  have k2 : (nI 1).toNatClampNeg = 1 := nI_clamp (by omega)
  have s1 : nI 1 <<< (nI n &&& 31) = nI (2 ^ n) := ni_1s (by omega)
  by_cases h11 : n = 11
  · have hno : gbf n B nr S C (2 ^ n) = none := gbp_uniq (gbf_p _) (show gbp n B nr S C (2 ^ n) none from fun s _ q => by
      have := re_0 q hn; omega)
    refine ⟨σ, ?_, fk_rf _ _⟩
    rw [hno]
    obtain ⟨hR, -, e1, -⟩ := id hm.1
    unfold f_76 f_76_4
    rw [lpO_eq]
    have a1 : ¬ nI (2 ^ n) ≤ nI 0 := by rw [nI_leI (by omega) (by omega)]; omega
    have a2 : nI 11 ≤ nI n := by rw [nI_leI (by omega) (by omega)]; omega
    simp only [F_76_4, f_76_68, la_0, la_1, rm_0_1 hR, gd_tt, oA_arr, px_obj_s, Option.bind_some, Option.map_some, Option.bind_none, eq_self, true_or, or_true, px_av_0, px_av_1, px_av_2, px_av_10, px_av_11, bn, wi_1, wi_2, wl_1, wl_21, wl_22, wr_1, wr_21, wr_22, Sum.elim_inl, Sum.elim_inr, ↓reduceIte, Nat.reduceLT, Nat.reduceLeDiff, not_false_eq_true, not_true_eq_false, Nat.reduceEqDiff, Nat.reduceAdd, reduceCtorEq, and_true, true_and, and_false, false_and, false_or, or_false, k1, k2, e1, s1, a1, a2]
    rfl
  · have a2 : ¬ nI 11 ≤ nI n := by rw [nI_leI (by omega) (by omega)]; omega
    unfold f_76 f_76_4
    obtain ⟨b, q1, υ, rfl, q2⟩ := lp_for (F := fun s : Int32 × Int32 × px_M => F_76_4 tT 0 s.1 s.2.1 s.2.2) (fun j q => ∃ ρ, q = (oI (gbf n B nr S C j), nI j, ρ) ∧ fk RQ σ ρ) (fun b => ∃ υ, b = (oI (gbf n B nr S C (2 ^ n)), υ) ∧ fk RQ σ υ) (2 ^ n) (fun j q hj hI => by
      obtain ⟨ρ, rfl, g1⟩ := hI
      have hmρ := mor_fk g1 hm
      obtain ⟨hR, -, e1, -⟩ := id hmρ.1
      have a1 : ¬ nI (2 ^ n) ≤ nI j := by rw [nI_leI (by omega) (by omega)]; omega
      have kf := e_isFeast hmρ.1 (s := j) (by omega)
      obtain ⟨ω, w1, w2⟩ := e_re hmρ.1 hru hmρ.2 hj
      have hle := re_le (n := n) (B := B) (nr := nr) (S := S) (C := C) j
      have l2 : (nI j).toInt64 = lN j := nI_l (by omega)
      have step : ∀ x1, f_76_51 tT ρ 0 x1 (nI j) = some (.inl (if re n B nr S C j = 0 then nI j else x1, nI (j + 1), ω)) := by
        intro x1
        by_cases h0 : re n B nr S C j = 0
        · rw [h0] at w1
          rw [if_pos h0]
          simp only [f_76_51, f_76_62, la_0, gd_tt, oA_arr, px_obj_s, Option.bind_some, Option.map_some, Option.bind_none, eq_self, true_or, or_true, px_av_0, px_av_1, px_av_2, px_av_10, px_av_11, bn, wi_1, wi_2, wl_1, wl_21, wl_22, wr_1, wr_21, wr_22, Sum.elim_inl, Sum.elim_inr, ↓reduceIte, Nat.reduceLT, Nat.reduceLeDiff, not_false_eq_true, not_true_eq_false, Nat.reduceEqDiff, Nat.reduceAdd, reduceCtorEq, and_true, true_and, and_false, false_and, false_or, or_false, l2, w1, nI_add]
        · have z : ¬ nI (re n B nr S C j) = nI 0 := by rw [nI_eq (by omega) (by omega)]; exact h0
          rw [if_neg h0]
          simp only [f_76_51, f_76_62, la_0, gd_tt, oA_arr, px_obj_s, Option.bind_some, Option.map_some, Option.bind_none, eq_self, true_or, or_true, px_av_0, px_av_1, px_av_2, px_av_10, px_av_11, bn, wi_1, wi_2, wl_1, wl_21, wl_22, wr_1, wr_21, wr_22, Sum.elim_inl, Sum.elim_inr, ↓reduceIte, Nat.reduceLT, Nat.reduceLeDiff, not_false_eq_true, not_true_eq_false, Nat.reduceEqDiff, Nat.reduceAdd, reduceCtorEq, and_true, true_and, and_false, false_and, false_or, or_false, l2, w1, z, nI_add]
      simp only [gbf]
      cases hf : fe n B j with
      | false =>
        rw [hf, mb_f0] at kf
        have h0 : ¬ re n B nr S C j = 0 := fun q => by rw [re_fe q] at hf; cases hf
        refine ⟨(oI (gbf n B nr S C j), nI (j + 1), ρ), ?_, ρ, ?_, g1⟩
        · try dsimp only
          unfold F_76_4 f_76_62
          simp only [la_0, la_1, rm_0_1 hR, gd_tt, oA_arr, px_obj_s, Option.bind_some, Option.map_some, Option.bind_none, eq_self, true_or, or_true, px_av_0, px_av_1, px_av_2, px_av_10, px_av_11, bn, wi_1, wi_2, wl_1, wl_21, wl_22, wr_1, wr_21, wr_22, Sum.elim_inl, Sum.elim_inr, ↓reduceIte, Nat.reduceLT, Nat.reduceLeDiff, not_false_eq_true, not_true_eq_false, Nat.reduceEqDiff, Nat.reduceAdd, reduceCtorEq, and_true, true_and, and_false, false_and, false_or, or_false, k1, k2, e1, s1, a1, a2, kf, nI_add]
        · cases hg : gbf n B nr S C j with
          | none => simp only [if_neg h0]
          | some b => simp only [if_neg (show ¬ (re n B nr S C j = 0 ∧ bc 11 b < bc 11 j) from fun q => h0 q.1)]
      | true =>
        rw [hf, mb_t1] at kf
        cases hg : gbf n B nr S C j with
        | none =>
          refine ⟨(if re n B nr S C j = 0 then nI j else -1, nI (j + 1), ω), ?_, ω, ?_, fk_tr g1 w2⟩
          · have o0 : oI none = (-1 : Int32) := rfl
            try dsimp only
            unfold F_76_4
            simp only [la_0, la_1, rm_0_1 hR, gd_tt, oA_arr, px_obj_s, Option.bind_some, Option.map_some, Option.bind_none, eq_self, true_or, or_true, px_av_0, px_av_1, px_av_2, px_av_10, px_av_11, bn, wi_1, wi_2, wl_1, wl_21, wl_22, wr_1, wr_21, wr_22, Sum.elim_inl, Sum.elim_inr, ↓reduceIte, Nat.reduceLT, Nat.reduceLeDiff, not_false_eq_true, not_true_eq_false, Nat.reduceEqDiff, Nat.reduceAdd, reduceCtorEq, and_true, true_and, and_false, false_and, false_or, or_false, k1, k2, e1, s1, a1, a2, kf, n10, o0, step]
          · by_cases h0 : re n B nr S C j = 0
            · simp only [if_pos h0]; rfl
            · simp only [if_neg h0]; rfl
        | some b =>
          have hgp := gbf_p (n := n) (B := B) (nr := nr) (S := S) (C := C) j
          rw [hg] at hgp
          have hbj := hgp.1
          have o0 : oI (some b) = nI b := rfl
          have ob : ¬ nI b = -1 := nI_m1 (by omega)
          have b1 := e_bitsOf ρ (s := j) (by omega)
          have b2 := e_bitsOf ρ (s := b) (by omega)
          have d1 := bc_le 11 j
          have d2 := bc_le 11 b
          by_cases hlt : bc 11 b < bc 11 j
          · have z : ¬ nI (bc 11 j) ≤ nI (bc 11 b) := by rw [nI_leI (by omega) (by omega)]; omega
            refine ⟨(if re n B nr S C j = 0 then nI j else nI b, nI (j + 1), ω), ?_, ω, ?_, fk_tr g1 w2⟩
            · try dsimp only
              unfold F_76_4 f_76_40
              simp only [la_0, la_1, rm_0_1 hR, gd_tt, oA_arr, px_obj_s, Option.bind_some, Option.map_some, Option.bind_none, eq_self, true_or, or_true, px_av_0, px_av_1, px_av_2, px_av_10, px_av_11, bn, wi_1, wi_2, wl_1, wl_21, wl_22, wr_1, wr_21, wr_22, Sum.elim_inl, Sum.elim_inr, ↓reduceIte, Nat.reduceLT, Nat.reduceLeDiff, not_false_eq_true, not_true_eq_false, Nat.reduceEqDiff, Nat.reduceAdd, reduceCtorEq, and_true, true_and, and_false, false_and, false_or, or_false, k1, k2, e1, s1, a1, a2, kf, n10, o0, ob, b1, b2, z, step]
            · by_cases h0 : re n B nr S C j = 0
              · simp only [if_pos (show re n B nr S C j = 0 ∧ bc 11 b < bc 11 j from ⟨h0, hlt⟩), if_pos h0]; rfl
              · simp only [if_neg (show ¬ (re n B nr S C j = 0 ∧ bc 11 b < bc 11 j) from fun q => h0 q.1), if_neg h0]; rfl
          · have z : nI (bc 11 j) ≤ nI (bc 11 b) := by rw [nI_leI (by omega) (by omega)]; omega
            refine ⟨(nI b, nI (j + 1), ρ), ?_, ρ, ?_, g1⟩
            · try dsimp only
              unfold F_76_4 f_76_40 f_76_62
              simp only [la_0, la_1, rm_0_1 hR, gd_tt, oA_arr, px_obj_s, Option.bind_some, Option.map_some, Option.bind_none, eq_self, true_or, or_true, px_av_0, px_av_1, px_av_2, px_av_10, px_av_11, bn, wi_1, wi_2, wl_1, wl_21, wl_22, wr_1, wr_21, wr_22, Sum.elim_inl, Sum.elim_inr, ↓reduceIte, Nat.reduceLT, Nat.reduceLeDiff, not_false_eq_true, not_true_eq_false, Nat.reduceEqDiff, Nat.reduceAdd, reduceCtorEq, and_true, true_and, and_false, false_and, false_or, or_false, k1, k2, e1, s1, a1, a2, kf, n10, o0, ob, b1, b2, z, nI_add]
            · simp only [if_neg (show ¬ (re n B nr S C j = 0 ∧ bc 11 b < bc 11 j) from fun q => hlt q.2)]; rfl) (fun q hI => by
      obtain ⟨ρ, rfl, g1⟩ := hI
      obtain ⟨hR, -, e1, -⟩ := (mor_fk g1 hm).1
      have a1 : nI (2 ^ n) ≤ nI (2 ^ n) := by rw [nI_leI (by omega) (by omega)]; omega
      refine ⟨(oI (gbf n B nr S C (2 ^ n)), ρ), ?_, ρ, rfl, g1⟩
      try dsimp only
      unfold F_76_4 f_76_68
      simp only [la_0, la_1, rm_0_1 hR, gd_tt, oA_arr, px_obj_s, Option.bind_some, Option.map_some, Option.bind_none, eq_self, true_or, or_true, px_av_0, px_av_1, px_av_2, px_av_10, px_av_11, bn, wi_1, wi_2, wl_1, wl_21, wl_22, wr_1, wr_21, wr_22, Sum.elim_inl, Sum.elim_inr, ↓reduceIte, Nat.reduceLT, Nat.reduceLeDiff, not_false_eq_true, not_true_eq_false, Nat.reduceEqDiff, Nat.reduceAdd, reduceCtorEq, and_true, true_and, and_false, false_and, false_or, or_false, k1, k2, e1, s1, a1]) 0 (-1, nI 0, σ) (by omega) ⟨σ, rfl, fk_rf _ _⟩
    exact ⟨υ, q1, q2⟩
theorem cnv_160 {υ : px_M} (h : fr (tw2 160) σ υ) (hc : cnv σ 113 111 nr S C n B) : cnv υ 113 111 nr S C n B := by
  obtain ⟨⟨c1, ⟨c2, c3⟩, c4, c5, c6, c7, c8⟩, c9⟩ := hc
  refine ⟨⟨cR_fr h c1, ⟨by rw [h.2.2 210 5 (Or.inl rfl)]; exact c2, by rw [h.2.2 210 6 (Or.inl rfl)]; exact c3⟩, c4, c5, c6, cru_fr h (fun _ => rfl) (fun _ => rfl) (fun _ => rfl) (fun _ => rfl) c7, ct_fr h (fun _ => rfl) (fun _ => rfl) c8⟩, ?_⟩
  rcases c9 with q | ⟨q1, q2⟩
  · exact Or.inl (by rw [h.1 210 9 rfl]; exact q)
  · exact Or.inr ⟨by rw [h.1 210 9 rfl]; exact q1, fun r hr => by rw [h.1 219 r rfl]; exact q2 r hr⟩
theorem c_gby (hc : clr σ n B nr S C) : ∃ υ, f_12063 tT σ 100 = some (oI (gbf n B nr S C (2 ^ n)), υ) ∧ fr SC σ υ := by
  have hR := hc.1.1
  have hn := hc.1.2.2.2.2.1.1
  have e1 := hc.1.2.2.2.2.2.1
  have hp := pw_le hn
  have hp0 := Nat.two_pow_pos n
  by_cases h11 : n = 11
  · have hno : gbf n B nr S C (2 ^ n) = none := gbp_uniq (gbf_p _) (show gbp n B nr S C (2 ^ n) none from fun s _ q => by
      have := re_0 q hn; omega)
    refine ⟨σ, ?_, fr_rf _ _⟩
    rw [hno]
    have a1 : ¬ nI n < nI 11 := by rw [nI_ltI (by omega) (by omega)]; omega
    simp only [f_12063, la_100, la_110, la_111, rc_100_0 hR, rc_110_0 hR, gd_tt, oA_arr, px_obj_s, Option.bind_some, Option.map_some, Option.bind_none, eq_self, true_or, or_true, px_av_0, px_av_1, px_av_2, px_av_10, px_av_11, bn, wi_1, wi_2, wl_1, wl_21, wl_22, wr_1, wr_21, wr_22, Sum.elim_inl, Sum.elim_inr, ↓reduceIte, Nat.reduceLT, Nat.reduceLeDiff, not_false_eq_true, not_true_eq_false, Nat.reduceEqDiff, Nat.reduceAdd, reduceCtorEq, and_true, true_and, and_false, false_and, false_or, or_false, e1, a1]
    rfl
  · have a1 : nI n < nI 11 := by rw [nI_ltI (by omega) (by omega)]; omega
    obtain ⟨ρ, q1, q2, q3⟩ := c_convN hc
    have hRρ := q3.1.1
    obtain ⟨ρ2, p1, p2, p3⟩ := c_lay (f := 160) (t := 111) q3.1.2.2.2.2.2.2 la_160 la_161 (rc_160_0 hRρ) (by decide) (by decide) (by decide)
    have hcn := cnv_160 p2 q3
    have hR2 := hcn.1.1
    obtain ⟨mb0, mb1, mb2⟩ := mgs_some (n := n) (B := B)
    have hmlt := fwo_lt mb1
    have hmax := fwo_max mb1
    have lg := c_largest p3 (g := 0) (by decide)
    rw [mb1, Option.getD_some] at lg
    have bcm := e_bitCount ρ2 (s := mb0) (by omega)
    have hm11 := bc_le 11 mb0
    have ftCS : ∀ υ, fr CS ρ2 υ → ft υ 160 n B := fun υ h => by
      obtain ⟨f1, f2, f3, f4, f5, f6⟩ := p3
      exact ⟨f1, f2, by rw [h.2.2 160 0 (Or.inl rfl)]; exact f3, f4, by rw [h.1 160 1 rfl]; exact f5, fun s hs => by rw [h.1 161 s rfl]; exact f6 s hs⟩
    have outer : ∃ b, f_12063_56 tT 100 (nI (bc 11 mb0)) ρ2 = some b ∧ ∃ υ, b = (oI (gbf n B nr S C (2 ^ n)), υ) ∧ fr CS ρ2 υ := by
      unfold f_12063_56
      refine lp_rel (F := fun s : Int32 × px_M => F_12063_56 tT 100 s.1 s.2) (fun j q => ∃ ω, fr CS ρ2 ω ∧ cnv ω 113 111 nr S C n B ∧ (∀ s, s < 2 ^ n → re n B nr S C s = 0 → bc 11 s + j ≤ bc 11 mb0) ∧ q = (if j ≤ bc 11 mb0 then nI (bc 11 mb0 - j) else -1, ω)) _ (bc 11 mb0 + 1) (fun j q hj hI => ?_) 0 (nI (bc 11 mb0), ρ2) (by omega) ⟨ρ2, fr_rf _ _, hcn, fun s hs hr => by have := hmax.2 s hs (re_fe hr); omega, by rw [if_pos (by omega), Nat.sub_zero]⟩
      obtain ⟨ω, g1, g2, g3, rfl⟩ := hI
      by_cases hjm : j ≤ bc 11 mb0
      · rw [if_pos hjm]
        generalize hg : bc 11 mb0 - j = g
        have hg11 : g ≤ 11 := by omega
        have inner : ∃ b, f_12063_62 tT 100 (nI g) (nI 0) ω = some b ∧ ((∃ υ, b = .inl (nI g + (-1), υ) ∧ fr CS ρ2 υ ∧ cnv υ 113 111 nr S C n B ∧ ∀ s, s < 2 ^ n → re n B nr S C s = 0 → bc 11 s ≠ g) ∨ (∃ s υ, b = .inr (nI s, υ) ∧ fr CS ρ2 υ ∧ s < 2 ^ n ∧ re n B nr S C s = 0 ∧ bc 11 s = g ∧ ∀ s', s' < s → re n B nr S C s' = 0 → bc 11 s' ≠ g)) := by
          unfold f_12063_62
          refine lp_rel (F := fun s : Int32 × px_M => F_12063_62 tT 100 (nI g) s.1 s.2) (fun k q => ∃ ω, q = (nI k, ω) ∧ fr CS ρ2 ω ∧ cnv ω 113 111 nr S C n B ∧ ∀ s, s < k → re n B nr S C s = 0 → bc 11 s ≠ g) _ (2 ^ n) (fun k q hk hI => ?_) 0 (nI 0, ω) (by omega) ⟨ω, rfl, g1, g2, fun s hs => by omega⟩
          obtain ⟨ω, rfl, g1, g2, g4⟩ := hI
          obtain ⟨c1, -, -, -, -, -, c8⟩ := id g2.1
          have hal := c_all c8
          by_cases hkn : k = 2 ^ n
          · subst hkn
            refine Or.inr ⟨.inl (nI g + (-1), ω), ?_, Or.inl ⟨ω, rfl, g1, g2, g4⟩⟩
            have b1 : nI (2 ^ n - 1) < nI (2 ^ n) := by rw [nI_ltI (by omega) (by omega)]; omega
            dsimp only
            unfold F_12063_62
            simp only [la_100, la_110, la_111, rc_100_0 c1, rc_110_0 c1, gd_tt, oA_arr, px_obj_s, Option.bind_some, Option.map_some, Option.bind_none, eq_self, true_or, or_true, px_av_0, px_av_1, px_av_2, px_av_10, px_av_11, bn, wi_1, wi_2, wl_1, wl_21, wl_22, wr_1, wr_21, wr_22, Sum.elim_inl, Sum.elim_inr, ↓reduceIte, Nat.reduceLT, Nat.reduceLeDiff, not_false_eq_true, not_true_eq_false, Nat.reduceEqDiff, Nat.reduceAdd, reduceCtorEq, and_true, true_and, and_false, false_and, false_or, or_false, hal, b1]
          · have hk2 : k < 2 ^ n := by omega
            have b1 : ¬ nI (2 ^ n - 1) < nI k := by rw [nI_ltI (by omega) (by omega)]; omega
            have bck := e_bitCount ω (s := k) (by omega)
            have hk11 := bc_le 11 k
            by_cases hbk : bc 11 k = g
            · have z : (nI (bc 11 k) = nI g) = True := eq_true (by rw [hbk])
              have kf := c_isFeast (ftCS ω g1) hk2
              cases hf : fe n B k with
              | false =>
                rw [hf, mb_f0] at kf
                refine Or.inl ⟨(nI (k + 1), ω), ?_, by omega, ω, rfl, g1, g2, fun s hs hr => ?_⟩
                · dsimp only
                  unfold F_12063_62 f_12063_108
                  simp only [la_100, la_110, la_111, la_160, rc_100_0 c1, rc_110_0 c1, rc_100_5 c1, gd_tt, oA_arr, px_obj_s, Option.bind_some, Option.map_some, Option.bind_none, eq_self, true_or, or_true, px_av_0, px_av_1, px_av_2, px_av_10, px_av_11, bn, wi_1, wi_2, wl_1, wl_21, wl_22, wr_1, wr_21, wr_22, Sum.elim_inl, Sum.elim_inr, ↓reduceIte, Nat.reduceLT, Nat.reduceLeDiff, not_false_eq_true, not_true_eq_false, Nat.reduceEqDiff, Nat.reduceAdd, reduceCtorEq, and_true, true_and, and_false, false_and, false_or, or_false, hal, b1, bck, z, kf, nI_add]
                · by_cases q : s = k
                  · subst q; rw [re_fe hr] at hf; cases hf
                  · exact g4 s (by omega) hr
              | true =>
                rw [hf, mb_t1] at kf
                obtain ⟨υ, w1, w2, w3⟩ := c_re g2 hk2
                have hle := re_le (n := n) (B := B) (nr := nr) (S := S) (C := C) k
                by_cases h0 : re n B nr S C k = 0
                · rw [h0] at w1
                  refine Or.inr ⟨.inr (nI k, υ), ?_, Or.inr ⟨k, υ, rfl, fr_tr g1 w2, hk2, h0, hbk, g4⟩⟩
                  dsimp only
                  unfold F_12063_62 f_12063_95
                  simp only [la_100, la_110, la_111, la_160, la_210, rc_100_0 c1, rc_110_0 c1, rc_100_5 c1, rc_100_10 c1, gd_tt, oA_arr, px_obj_s, Option.bind_some, Option.map_some, Option.bind_none, eq_self, true_or, or_true, px_av_0, px_av_1, px_av_2, px_av_10, px_av_11, bn, wi_1, wi_2, wl_1, wl_21, wl_22, wr_1, wr_21, wr_22, Sum.elim_inl, Sum.elim_inr, ↓reduceIte, Nat.reduceLT, Nat.reduceLeDiff, not_false_eq_true, not_true_eq_false, Nat.reduceEqDiff, Nat.reduceAdd, reduceCtorEq, and_true, true_and, and_false, false_and, false_or, or_false, hal, b1, bck, z, kf, n10, w1]
                · have z2 : ¬ nI (re n B nr S C k) = nI 0 := by rw [nI_eq (by omega) (by omega)]; exact h0
                  refine Or.inl ⟨(nI (k + 1), υ), ?_, by omega, υ, rfl, fr_tr g1 w2, w3, fun s hs hr => ?_⟩
                  · dsimp only
                    unfold F_12063_62 f_12063_95 f_12063_108
                    simp only [la_100, la_110, la_111, la_160, la_210, rc_100_0 c1, rc_110_0 c1, rc_100_5 c1, rc_100_10 c1, gd_tt, oA_arr, px_obj_s, Option.bind_some, Option.map_some, Option.bind_none, eq_self, true_or, or_true, px_av_0, px_av_1, px_av_2, px_av_10, px_av_11, bn, wi_1, wi_2, wl_1, wl_21, wl_22, wr_1, wr_21, wr_22, Sum.elim_inl, Sum.elim_inr, ↓reduceIte, Nat.reduceLT, Nat.reduceLeDiff, not_false_eq_true, not_true_eq_false, Nat.reduceEqDiff, Nat.reduceAdd, reduceCtorEq, and_true, true_and, and_false, false_and, false_or, or_false, hal, b1, bck, z, kf, n10, w1, z2, nI_add]
                  · by_cases q : s = k
                    · subst q; exact absurd hr h0
                    · exact g4 s (by omega) hr
            · have z : ¬ nI (bc 11 k) = nI g := by rw [nI_eq (by omega) (by omega)]; exact hbk
              refine Or.inl ⟨(nI (k + 1), ω), ?_, by omega, ω, rfl, g1, g2, fun s hs hr => ?_⟩
              · dsimp only
                unfold F_12063_62 f_12063_108
                simp only [la_100, la_110, la_111, rc_100_0 c1, rc_110_0 c1, gd_tt, oA_arr, px_obj_s, Option.bind_some, Option.map_some, Option.bind_none, eq_self, true_or, or_true, px_av_0, px_av_1, px_av_2, px_av_10, px_av_11, bn, wi_1, wi_2, wl_1, wl_21, wl_22, wr_1, wr_21, wr_22, Sum.elim_inl, Sum.elim_inr, ↓reduceIte, Nat.reduceLT, Nat.reduceLeDiff, not_false_eq_true, not_true_eq_false, Nat.reduceEqDiff, Nat.reduceAdd, reduceCtorEq, and_true, true_and, and_false, false_and, false_or, or_false, hal, b1, bck, z, nI_add]
              · by_cases q : s = k
                · subst q; exact hbk
                · exact g4 s (by omega) hr
        obtain ⟨b, w1, w2⟩ := inner
        have a3 : ¬ nI g < nI 0 := by rw [nI_ltI (by omega) (by omega)]; omega
        have hF : F_12063_56 tT 100 (nI g) ω = some b := by
          unfold F_12063_56
          rw [if_neg a3, w1]
        rcases w2 with ⟨υ, rfl, w3, w4, w5⟩ | ⟨s, υ, rfl, w3, w4, w5, w6, w7⟩
        · refine Or.inl ⟨(nI g + (-1), υ), hF, by omega, υ, w3, w4, fun s hs hr => ?_, ?_⟩
          · have y1 := g3 s hs hr
            have y2 := w5 s hs hr
            omega
          · have hv : nI g + (-1) = if j + 1 ≤ bc 11 mb0 then nI (bc 11 mb0 - (j + 1)) else -1 := by
              by_cases hg0 : g = 0
              · rw [hg0, if_neg (by omega)]; decide
              · rw [if_pos (by omega), show (-1 : Int32) = -(nI 1) from rfl, ← Int32.sub_eq_add_neg, ni_subL (by omega), show g - 1 = bc 11 mb0 - (j + 1) by omega]
            rw [hv]
        · refine Or.inr ⟨(nI s, υ), hF, υ, ?_, w3⟩
          have : gbf n B nr S C (2 ^ n) = some s := gbp_uniq (gbf_p _) ⟨w4, w5, fun s' hs' hr' => by have := g3 s' hs' hr'; omega, fun s' hs' hr' => by
            have y1 := g3 s' (by omega) hr'
            have y2 := w7 s' hs' hr'
            omega⟩
          rw [this]
          rfl
      · rw [if_neg hjm]
        refine Or.inr ⟨(-1, ω), ?_, ω, ?_, g1⟩
        · dsimp only
          unfold F_12063_56
          rw [if_pos (by decide)]
        · have : gbf n B nr S C (2 ^ n) = none := gbp_uniq (gbf_p _) (show gbp n B nr S C (2 ^ n) none from fun s hs hr => by
            have := g3 s hs hr; omega)
          rw [this]
          rfl
    obtain ⟨b, w1, υ, rfl, w2⟩ := outer
    refine ⟨υ, ?_, fr_tr (fr_CS q2) (fr_tr (fr_mono p2 (fun l j h => by
      simp only [SC, Bool.and_eq_false_iff, decide_eq_false_iff_not] at h
      exact tw2_n (by omega) (by omega))) (fr_CS w2))⟩
    simp only [f_12063, f_12063_42, la_100, la_110, la_111, la_160, rc_100_0 hR, rc_110_0 hR, gd_tt, oA_arr, px_obj_s, Option.bind_some, Option.map_some, Option.bind_none, eq_self, true_or, or_true, px_av_0, px_av_1, px_av_2, px_av_10, px_av_11, bn, wi_1, wi_2, wl_1, wl_21, wl_22, wr_1, wr_21, wr_22, Sum.elim_inl, Sum.elim_inr, ↓reduceIte, Nat.reduceLT, Nat.reduceLeDiff, not_false_eq_true, not_true_eq_false, Nat.reduceEqDiff, Nat.reduceAdd, reduceCtorEq, and_true, true_and, and_false, false_and, false_or, or_false, e1, a1, q1, rc_100_0 hRρ, rc_100_5 hRρ, rc_110_0 hRρ, p1, rc_100_5 hR2, lg, bcm, w1]
theorem grow_joint (hru : rul nr S C) {m : Nat} (hm11 : m ≤ 11) : ∀ k j, j + k = m → ∀ n B d G σ, cld σ n B nr S C d G → ∃ r σ' n' B' d' G', f_12020_18 tT 100 (nI m) (nI j) (nI j) σ = some (r, σ') ∧ fr SCD σ σ' ∧ cld σ' n' B' nr S C d' G' ∧ ∀ τ, modl τ n B nr S C d G → ∃ υ, f_77_22 tT 0 (nI m) (nI j) τ = some (r, υ) ∧ fr SMD τ υ ∧ modl υ n' B' nr S C d' G' := by
  intro k
  induction k with
  | zero =>
    intro j hj n B d G σ hc
    have : j = m := by omega
    subst this
    have a1 : nI j ≤ nI j := by rw [nI_leI (by omega) (by omega)]; omega
    refine ⟨nI j, σ, n, B, d, G, ?_, fr_rf _ _, hc, fun τ hm => ⟨τ, ?_, fr_rf _ _, hm⟩⟩
    · unfold f_12020_18
      refine lp_end ?_
      simp only [F_12020_18, a1, ↓reduceIte]
    · unfold f_77_22
      refine lp_end ?_
      simp only [F_77_22, a1, ↓reduceIte]
  | succ k ih =>
    intro j hj n B d G σ hc
    have a1 : ¬ nI m ≤ nI j := by rw [nI_leI (by omega) (by omega)]; omega
    have hn := hc.1.1.2.2.2.2.1.1
    have hp := pw_le hn
    obtain ⟨ρ, q1, q2⟩ := c_gby hc.1
    have hcρ := cld_SC q2 hc
    have hgp := gbf_p (n := n) (B := B) (nr := nr) (S := S) (C := C) (2 ^ n)
    cases hg : gbf n B nr S C (2 ^ n) with
    | none =>
      rw [hg] at q1
      have o0 : oI none = (-1 : Int32) := rfl
      refine ⟨nI j, ρ, n, B, d, G, ?_, fr_mono q2 SCD_SC, hcρ, fun τ hm => ?_⟩
      · unfold f_12020_18
        refine lp_end ?_
        simp only [F_12020_18, a1, la_100, gd_tt, oA_arr, px_obj_s, Option.bind_some, Option.map_some, Option.bind_none, eq_self, true_or, or_true, px_av_0, px_av_1, px_av_2, px_av_10, px_av_11, bn, wi_1, wi_2, wl_1, wl_21, wl_22, wr_1, wr_21, wr_22, Sum.elim_inl, Sum.elim_inr, ↓reduceIte, Nat.reduceLT, Nat.reduceLeDiff, not_false_eq_true, not_true_eq_false, Nat.reduceEqDiff, Nat.reduceAdd, reduceCtorEq, and_true, true_and, and_false, false_and, false_or, or_false, q1, o0]
      · obtain ⟨υ, p1, p2⟩ := e_gby hm.1 hru
        rw [hg] at p1
        have p2' := fk_mono p2 SM_RQ
        refine ⟨υ, ?_, fr_fk p2', modl_fk p2' hm⟩
        unfold f_77_22
        refine lp_end ?_
        simp only [F_77_22, a1, la_0, gd_tt, oA_arr, px_obj_s, Option.bind_some, Option.map_some, Option.bind_none, eq_self, true_or, or_true, px_av_0, px_av_1, px_av_2, px_av_10, px_av_11, bn, wi_1, wi_2, wl_1, wl_21, wl_22, wr_1, wr_21, wr_22, Sum.elim_inl, Sum.elim_inr, ↓reduceIte, Nat.reduceLT, Nat.reduceLeDiff, not_false_eq_true, not_true_eq_false, Nat.reduceEqDiff, Nat.reduceAdd, reduceCtorEq, and_true, true_and, and_false, false_and, false_or, or_false, p1, o0]
    | some s =>
      rw [hg] at q1 hgp
      obtain ⟨s1, s2, -, -⟩ := hgp
      have hn1 := re_0 s2 hn
      have o0 : oI (some s) = nI s := rfl
      have ob : ¬ nI s = -1 := nI_m1 (by omega)
      obtain ⟨υ, w1, w2, w3⟩ := c_settle hcρ hn1 s1
      obtain ⟨r, σ', n', B', d', G', y1, y2, y3, y4⟩ := ih (j + 1) (by omega) _ _ _ _ υ w3
      refine ⟨r, σ', n', B', d', G', ?_, fr_tr (fr_mono q2 SCD_SC) (fr_tr w2 y2), y3, fun τ hm => ?_⟩
      · unfold f_12020_18 at y1 ⊢
        refine (lp_next (a' := (nI (j + 1), nI (j + 1), υ)) ?_).trans y1
        simp only [F_12020_18, a1, la_100, gd_tt, oA_arr, px_obj_s, Option.bind_some, Option.map_some, Option.bind_none, eq_self, true_or, or_true, px_av_0, px_av_1, px_av_2, px_av_10, px_av_11, bn, wi_1, wi_2, wl_1, wl_21, wl_22, wr_1, wr_21, wr_22, Sum.elim_inl, Sum.elim_inr, ↓reduceIte, Nat.reduceLT, Nat.reduceLeDiff, not_false_eq_true, not_true_eq_false, Nat.reduceEqDiff, Nat.reduceAdd, reduceCtorEq, and_true, true_and, and_false, false_and, false_or, or_false, q1, o0, ob, w1, nI_add]
      · obtain ⟨χ, p1, p2⟩ := e_gby hm.1 hru
        rw [hg] at p1
        have p2' := fk_mono p2 SM_RQ
        obtain ⟨α, β, z1, z2, z3, z4, z5⟩ := e_settle (modl_fk p2' hm) hn1 s1
        obtain ⟨ψ, x1, x2, x3⟩ := y4 β z5
        refine ⟨ψ, ?_, fr_tr (fr_fk p2') (fr_tr z4 x2), x3⟩
        unfold f_77_22 at x1 ⊢
        refine (lp_next (a' := (nI (j + 1), β)) ?_).trans x1
        simp only [F_77_22, a1, la_0, gd_tt, oA_arr, px_obj_s, Option.bind_some, Option.map_some, Option.bind_none, eq_self, true_or, or_true, px_av_0, px_av_1, px_av_2, px_av_10, px_av_11, bn, wi_1, wi_2, wl_1, wl_21, wl_22, wr_1, wr_21, wr_22, Sum.elim_inl, Sum.elim_inr, ↓reduceIte, Nat.reduceLT, Nat.reduceLeDiff, not_false_eq_true, not_true_eq_false, Nat.reduceEqDiff, Nat.reduceAdd, reduceCtorEq, and_true, true_and, and_false, false_and, false_or, or_false, p1, o0, ob, z1, z3, nI_add]
theorem a_grow (hc : cld σ n B nr S C d G) (x : Int32) : agD σ (f_12020 tT σ 100 x) (fun τ => f_77 tT τ 0 x) n B nr S C d G := by
  have hru := hc.1.2.2
  rcases rg_cases x 1 11 (by omega) with ⟨m, h1, h2, rfl⟩ | hno
  · obtain ⟨r, σ', n', B', d', G', q1, q2, q3, q4⟩ := grow_joint hru h2 m 0 (by omega) n B d G σ hc
    refine ⟨r, σ', n', B', d', G', ?_, q2, q3, fun τ hm => ?_⟩
    · have a1 : ¬ nI m < nI 1 := by rw [nI_ltI (by omega) (by omega)]; omega
      have a2 : nI m ≤ nI 11 := by rw [nI_leI (by omega) (by omega)]; omega
      simp only [f_12020, a1, a2, ↓reduceIte, q1]
    · obtain ⟨υ, p1, p2, p3⟩ := q4 _ (modl_thr hm)
      refine ⟨υ, ?_, fr_tr (fr_fk fk_thr) p2, p3⟩
      have w0 := e_withinN (px_wi τ 0 0 (nI 0)) (nI m) (lo := 1) (hi := 11) (by omega) (by omega)
      rw [decide_eq_true (by rw [nI_toInt (by omega)]; omega), mb_t1] at w0
      simp only [f_77, la_0, gd_tt, oA_arr, px_obj_s, Option.bind_some, Option.map_some, Option.bind_none, eq_self, true_or, or_true, px_av_0, px_av_1, px_av_2, px_av_10, px_av_11, bn, wi_1, wi_2, wl_1, wl_21, wl_22, wr_1, wr_21, wr_22, Sum.elim_inl, Sum.elim_inr, ↓reduceIte, Nat.reduceLT, Nat.reduceLeDiff, not_false_eq_true, not_true_eq_false, Nat.reduceEqDiff, Nat.reduceAdd, reduceCtorEq, and_true, true_and, and_false, false_and, false_or, or_false, w0, n10, p1]
  · refine ⟨-3, σ, n, B, d, G, ?_, fr_rf _ _, hc, fun τ hm => ⟨_, ?_, fr_fk fk_thr, modl_thr hm⟩⟩
    · unfold f_12020
      exact rg_no (by omega) (by omega) hno
    · have w0 := e_withinN (px_wi τ 0 0 (nI 0)) x (lo := 1) (hi := 11) (by omega) (by omega)
      rw [decide_eq_false hno, mb_f0] at w0
      simp only [f_77, la_0, gd_tt, oA_arr, px_obj_s, Option.bind_some, Option.map_some, Option.bind_none, eq_self, true_or, or_true, px_av_0, px_av_1, px_av_2, px_av_10, px_av_11, bn, wi_1, wi_2, wl_1, wl_21, wl_22, wr_1, wr_21, wr_22, Sum.elim_inl, Sum.elim_inr, ↓reduceIte, Nat.reduceLT, Nat.reduceLeDiff, not_false_eq_true, not_true_eq_false, Nat.reduceEqDiff, Nat.reduceAdd, reduceCtorEq, and_true, true_and, and_false, false_and, false_or, or_false, w0]
end
