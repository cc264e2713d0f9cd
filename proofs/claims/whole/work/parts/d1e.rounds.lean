/-! telling: the model's rounds -/
section
variable {σ τ : px_M} {n : Nat} {B : Nat → Nat}
def kn2 (l _ : Nat) : Bool := l == 25 || l == 26
theorem mo_k2 {υ : px_M} (h : fr kn2 σ υ) (hm : mo σ n B) : mo υ n B := mo_fr h (fun _ => rfl) hm
theorem fr_25 {υ : px_M} (h : fr (on 25) σ υ) : fr kn2 σ υ := fr_mono h (fun l j q => by
  simp only [kn2, Bool.or_eq_false_iff] at q
  exact q.1)
theorem fr_k2 {υ : px_M} (h : fr kn2 σ υ) : fr SM σ υ := fr_mono h (fun l j q => by
  simp only [kn2, Bool.or_eq_false_iff, beq_eq_false_iff_ne]
  constructor
  · intro e; subst e; simp [SM] at q
  · intro e; subst e; simp [SM] at q)
def lsd (n : Nat) (W : Nat → Bool) (s : Nat) : Prop := ∃ k, k < n ∧ s.testBit k = false ∧ W (s ||| 2 ^ k) = true
theorem e_isLess (hm : mo σ n B) {s : Nat} {W : Nat → Bool} (hs : s < 2 ^ n) (hW : ∀ x, x < 2048 → σ.1 26 x = mb (W x)) : ∃ b, f_97 tT σ 0 (nI s) = some b ∧ ∃ p, b = mb p ∧ (p = true ↔ lsd n W s) := by
  have k1 : vp_in (nI 1) 3216 := (vp_in_eq (by omega)).mpr (by omega)
  have k2 : (nI 1).toNatClampNeg = 1 := nI_clamp (by omega)
  obtain ⟨hR, hw, e1, -⟩ := id hm
  have hn := hw.1
  have hsl := lt_2048 hn hs
  have ls : (nI s).toInt64 = lN s := nI_l (by omega)
  unfold f_97 f_97_2
  refine lp_rel (F := fun q : Int32 => F_97_2 tT σ 0 (nI s) q) (fun j q => q = nI j ∧ ∀ k, k < j → s.testBit k = false → W (s ||| 2 ^ k) = false) _ n (fun j q hj hI => ?_) 0 (nI 0) (by omega) ⟨rfl, fun k hk => by omega⟩
  obtain ⟨rfl, g1⟩ := hI
  by_cases hjn : j = n
  · have b1 : nI n ≤ nI j := by rw [nI_leI (by omega) (by omega)]; omega
    refine Or.inr ⟨nI 0, ?_, false, rfl, ?_⟩
    · unfold F_97_2
      simp only [la_0, la_1, rm_0_1 hR, k1, k2, e1, b1, gd_tt, oA_arr, px_obj_s, Option.bind_some, Option.map_some, Option.bind_none, eq_self, true_or, or_true, px_av_0, px_av_1, px_av_2, px_av_10, px_av_11, bn, wi_1, wi_2, wl_1, wl_21, wl_22, wr_1, wr_21, wr_22, Sum.elim_inl, Sum.elim_inr, ↓reduceIte, Nat.reduceLT, Nat.reduceLeDiff, not_false_eq_true, not_true_eq_false, Nat.reduceEqDiff, Nat.reduceAdd, reduceCtorEq, and_true, true_and, and_false, false_and, false_or, or_false]
    · constructor
      · intro q; cases q
      · rintro ⟨k, q1, q2, q3⟩
        rw [g1 k (by omega) q2] at q3
        cases q3
  · have b1 : ¬ nI n ≤ nI j := by rw [nI_leI (by omega) (by omega)]; omega
    have t1 := e_isIn σ (s := s) (j := j) (by omega) (by omega)
    have nxt : ¬ (s.testBit j = false ∧ W (s ||| 2 ^ j) = true) → ∀ k, k < j + 1 → s.testBit k = false → W (s ||| 2 ^ k) = false := fun z k hk q => by
      by_cases e : k = j
      · subst e
        cases y : W (s ||| 2 ^ k) with
        | false => rfl
        | true => exact absurd ⟨q, y⟩ z
      · exact g1 k (by omega) q
    cases hb : s.testBit j with
    | true =>
      rw [hb, mb_t1] at t1
      refine Or.inl ⟨nI (j + 1), ?_, by omega, rfl, nxt (fun z => by rw [hb] at z; cases z.1)⟩
      unfold F_97_2 f_97_36
      simp only [la_0, la_1, rm_0_1 hR, k1, k2, e1, b1, gd_tt, oA_arr, px_obj_s, Option.bind_some, Option.map_some, Option.bind_none, eq_self, true_or, or_true, px_av_0, px_av_1, px_av_2, px_av_10, px_av_11, bn, wi_1, wi_2, wl_1, wl_21, wl_22, wr_1, wr_21, wr_22, Sum.elim_inl, Sum.elim_inr, ↓reduceIte, Nat.reduceLT, Nat.reduceLeDiff, not_false_eq_true, not_true_eq_false, Nat.reduceEqDiff, Nat.reduceAdd, reduceCtorEq, and_true, true_and, and_false, false_and, false_or, or_false, ls, t1, n10, nI_add]
    | false =>
      rw [hb, mb_f0] at t1
      have hl : s ||| 2 ^ j < 2048 := or_lt hsl (pw_lt (by omega))
      have c1 : vp_in (nI (s ||| 2 ^ j)) 2048 := (vp_in_eq (by omega)).mpr (by omega)
      have c2 : (nI (s ||| 2 ^ j)).toNatClampNeg = s ||| 2 ^ j := nI_clamp (by omega)
      have hv := hW _ hl
      cases hy : W (s ||| 2 ^ j) with
      | false =>
        rw [hy, mb_f0] at hv
        refine Or.inl ⟨nI (j + 1), ?_, by omega, rfl, nxt (fun z => by rw [hy] at z; cases z.2)⟩
        unfold F_97_2 f_97_36
        simp only [la_0, la_1, la_26, rm_0_1 hR, rm_0_26 hR, k1, k2, e1, b1, gd_tt, oA_arr, px_obj_s, Option.bind_some, Option.map_some, Option.bind_none, eq_self, true_or, or_true, px_av_0, px_av_1, px_av_2, px_av_10, px_av_11, bn, wi_1, wi_2, wl_1, wl_21, wl_22, wr_1, wr_21, wr_22, Sum.elim_inl, Sum.elim_inr, ↓reduceIte, Nat.reduceLT, Nat.reduceLeDiff, not_false_eq_true, not_true_eq_false, Nat.reduceEqDiff, Nat.reduceAdd, reduceCtorEq, and_true, true_and, and_false, false_and, false_or, or_false, ls, t1, ni_1s (show j < 31 by omega), fa_or, c1, c2, hv, nI_add]
      | true =>
        rw [hy, mb_t1] at hv
        refine Or.inr ⟨nI 1, ?_, true, rfl, fun _ => ⟨j, by omega, hb, hy⟩, fun _ => rfl⟩
        unfold F_97_2 f_97_36
        simp only [la_0, la_1, la_26, rm_0_1 hR, rm_0_26 hR, k1, k2, e1, b1, gd_tt, oA_arr, px_obj_s, Option.bind_some, Option.map_some, Option.bind_none, eq_self, true_or, or_true, px_av_0, px_av_1, px_av_2, px_av_10, px_av_11, bn, wi_1, wi_2, wl_1, wl_21, wl_22, wr_1, wr_21, wr_22, Sum.elim_inl, Sum.elim_inr, ↓reduceIte, Nat.reduceLT, Nat.reduceLeDiff, not_false_eq_true, not_true_eq_false, Nat.reduceEqDiff, Nat.reduceAdd, reduceCtorEq, and_true, true_and, and_false, false_and, false_or, or_false, ls, t1, ni_1s (show j < 31 by omega), fa_or, c1, c2, hv, n10, nI_add]
/-- one round over all sets -/
theorem e_round (hm : mo σ n B) {W : Nat → Bool} (hW : ∀ x, x < 2048 → σ.1 26 x = mb (W x)) (h0 : ∀ x, x < 2048 → σ.1 25 x = nI 0) (gl i : Nat) : ∃ b, f_96_94 tT 0 (nI gl) (nI i) (nI 0) σ = some b ∧ ∃ (υ : px_M) (K : Nat → Bool), b = .inl (nI (i + 1), υ) ∧ fr (on 25) σ υ ∧ (∀ x, x < 2048 → υ.1 25 x = mb (K x)) ∧ ∀ x, K x = true ↔ ∃ s, s < 2 ^ n ∧ W s = true ∧ ¬ lsd n W s ∧ ∃ T, tld n B s T ∧ x = s ||| T := by
  have k1 : vp_in (nI 1) 3216 := (vp_in_eq (by omega)).mpr (by omega)
  have k2 : (nI 1).toNatClampNeg = 1 := nI_clamp (by omega)
  have hw := hm.2.1
  have hn := hw.1
  have hp := pw_le hn
  have h1n := ni_1s (j := n) (by omega)
  unfold f_96_94
  refine lp_for (F := fun s : Int32 × px_M => F_96_94 tT 0 (nI gl) (nI i) s.1 s.2) (fun j q => ∃ (ρ : px_M) (K : Nat → Bool), q = (nI j, ρ) ∧ fr (on 25) σ ρ ∧ (∀ x, x < 2048 → ρ.1 25 x = mb (K x)) ∧ ∀ x, K x = true ↔ ∃ s, s < j ∧ W s = true ∧ ¬ lsd n W s ∧ ∃ T, tld n B s T ∧ x = s ||| T) _ (2 ^ n) (fun j q hj hI => ?_) (fun q hI => ?_) 0 (nI 0, σ) (Nat.zero_le _) ⟨σ, fun _ => false, rfl, fr_rf _ _, h0, fun x => ⟨fun q => (by cases q), fun q => (by obtain ⟨s, q, -⟩ := q; omega)⟩⟩
  · obtain ⟨ρ, K, rfl, g1, g2, g3⟩ := hI
    have hmρ := mo_25 g1 hm
    obtain ⟨hRρ, -, e1ρ, -⟩ := id hmρ
    have b1 : ¬ nI (2 ^ n) ≤ nI j := by rw [nI_leI (by omega) (by omega)]; omega
    have c1 : vp_in (nI j) 2048 := (vp_in_eq (by omega)).mpr (by omega)
    have c2 : (nI j).toNatClampNeg = j := nI_clamp (by omega)
    have hWρ : ∀ x, x < 2048 → ρ.1 26 x = mb (W x) := fun x hx => by rw [g1.1 26 x rfl]; exact hW x hx
    have hv := hWρ j (by omega)
    have same : ¬ (W j = true ∧ ¬ lsd n W j) → ∀ x, K x = true ↔ ∃ s, s < j + 1 ∧ W s = true ∧ ¬ lsd n W s ∧ ∃ T, tld n B s T ∧ x = s ||| T := fun z x => by
      rw [g3]
      constructor
      · rintro ⟨s, q1, q2⟩; exact ⟨s, by omega, q2⟩
      · rintro ⟨s, q1, q2, q3, q4⟩
        by_cases e : s = j
        · subst e; exact absurd ⟨q2, q3⟩ z
        · exact ⟨s, by omega, q2, q3, q4⟩
    cases hWj : W j with
    | false =>
      rw [hWj, mb_f0] at hv
      refine ⟨(nI (j + 1), ρ), ?_, ρ, K, rfl, g1, g2, same (fun z => by rw [hWj] at z; cases z.1)⟩
      dsimp only
      unfold F_96_94 f_96_135
      simp only [la_0, la_1, la_26, rm_0_1 hRρ, rm_0_26 hRρ, k1, k2, e1ρ, h1n, b1, gd_tt, oA_arr, px_obj_s, Option.bind_some, Option.map_some, Option.bind_none, eq_self, true_or, or_true, px_av_0, px_av_1, px_av_2, px_av_10, px_av_11, bn, wi_1, wi_2, wl_1, wl_21, wl_22, wr_1, wr_21, wr_22, Sum.elim_inl, Sum.elim_inr, ↓reduceIte, Nat.reduceLT, Nat.reduceLeDiff, not_false_eq_true, not_true_eq_false, Nat.reduceEqDiff, Nat.reduceAdd, reduceCtorEq, and_true, true_and, and_false, false_and, false_or, or_false, c1, c2, hv, nI_add]
    | true =>
      rw [hWj, mb_t1] at hv
      obtain ⟨b, l1, p, rfl, l2⟩ := e_isLess hmρ hj hWρ
      cases hp' : p with
      | true =>
        rw [hp', mb_t1] at l1
        rw [hp'] at l2
        refine ⟨(nI (j + 1), ρ), ?_, ρ, K, rfl, g1, g2, same (fun z => z.2 (l2.mp rfl))⟩
        dsimp only
        unfold F_96_94 f_96_135
        simp only [la_0, la_1, la_26, rm_0_1 hRρ, rm_0_26 hRρ, k1, k2, e1ρ, h1n, b1, gd_tt, oA_arr, px_obj_s, Option.bind_some, Option.map_some, Option.bind_none, eq_self, true_or, or_true, px_av_0, px_av_1, px_av_2, px_av_10, px_av_11, bn, wi_1, wi_2, wl_1, wl_21, wl_22, wr_1, wr_21, wr_22, Sum.elim_inl, Sum.elim_inr, ↓reduceIte, Nat.reduceLT, Nat.reduceLeDiff, not_false_eq_true, not_true_eq_false, Nat.reduceEqDiff, Nat.reduceAdd, reduceCtorEq, and_true, true_and, and_false, false_and, false_or, or_false, c1, c2, hv, n10, l1, nI_add]
      | false =>
        rw [hp', mb_f0] at l1
        rw [hp'] at l2
        obtain ⟨υ, K', z1, z2, z3, z4⟩ := e_tells hw hj n 0 (by omega) 24 (by omega) ρ j K hmρ hj g2
        refine ⟨(nI (j + 1), υ), ?_, υ, K', rfl, fr_tr g1 z2, z3, fun x => ?_⟩
        · dsimp only
          unfold F_96_94 f_96_135
          simp only [la_0, la_1, la_26, rm_0_1 hRρ, rm_0_26 hRρ, k1, k2, e1ρ, h1n, b1, gd_tt, oA_arr, px_obj_s, Option.bind_some, Option.map_some, Option.bind_none, eq_self, true_or, or_true, px_av_0, px_av_1, px_av_2, px_av_10, px_av_11, bn, wi_1, wi_2, wl_1, wl_21, wl_22, wr_1, wr_21, wr_22, Sum.elim_inl, Sum.elim_inr, ↓reduceIte, Nat.reduceLT, Nat.reduceLeDiff, not_false_eq_true, not_true_eq_false, Nat.reduceEqDiff, Nat.reduceAdd, reduceCtorEq, and_true, true_and, and_false, false_and, false_or, or_false, c1, c2, hv, n10, l1, z1, nI_add]
        · have hreb : reb n B j n 0 j x ↔ ∃ T, tld n B j T ∧ x = j ||| T := by
            constructor
            · rintro ⟨T, t1, t2, t3, t4⟩; exact ⟨T, (mtc_tld hw hj).mp ⟨t1, t2, t3⟩, t4⟩
            · rintro ⟨T, t1, t2⟩
              obtain ⟨u1, u2, u3⟩ := (mtc_tld hw hj).mpr t1
              exact ⟨T, u1, u2, u3, t2⟩
          rw [z4, g3, hreb]
          constructor
          · rintro (⟨s, q1, q2⟩ | q)
            · exact ⟨s, by omega, q2⟩
            · exact ⟨j, by omega, hWj, fun z => by (have := l2.mpr z; cases this), q⟩
          · rintro ⟨s, q1, q2, q3, q4⟩
            by_cases e : s = j
            · subst e; exact Or.inr q4
            · exact Or.inl ⟨s, by omega, q2, q3, q4⟩
  · obtain ⟨ρ, K, rfl, g1, g2, g3⟩ := hI
    have hmρ := mo_25 g1 hm
    obtain ⟨hRρ, -, e1ρ, -⟩ := id hmρ
    have b1 : nI (2 ^ n) ≤ nI (2 ^ n) := by rw [nI_leI (by omega) (by omega)]; omega
    refine ⟨.inl (nI (i + 1), ρ), ?_, ρ, K, rfl, g1, g2, g3⟩
    dsimp only
    unfold F_96_94
    simp only [la_0, la_1, rm_0_1 hRρ, k1, k2, e1ρ, h1n, b1, gd_tt, oA_arr, px_obj_s, Option.bind_some, Option.map_some, Option.bind_none, eq_self, true_or, or_true, px_av_0, px_av_1, px_av_2, px_av_10, px_av_11, bn, wi_1, wi_2, wl_1, wl_21, wl_22, wr_1, wr_21, wr_22, Sum.elim_inl, Sum.elim_inr, ↓reduceIte, Nat.reduceLT, Nat.reduceLeDiff, not_false_eq_true, not_true_eq_false, Nat.reduceEqDiff, Nat.reduceAdd, reduceCtorEq, and_true, true_and, and_false, false_and, false_or, or_false, nI_add]
/-- what was known is kept aside -/
theorem e_aside (hm : mo σ n B) {W : Nat → Bool} (hW : ∀ x, x < 2048 → σ.1 25 x = mb (W x)) (gl i : Nat) : ∃ b, f_96_55 tT 0 (nI gl) (nI i) (nI 0) σ = some b ∧ ∃ (υ : px_M) (K : Nat → Bool), b = .inl (nI (i + 1), υ) ∧ fr kn2 σ υ ∧ (∀ x, x < 2048 → υ.1 25 x = mb (K x)) ∧ ∀ x, K x = true ↔ ∃ s, s < 2 ^ n ∧ W s = true ∧ ¬ lsd n W s ∧ ∃ T, tld n B s T ∧ x = s ||| T := by
  unfold f_96_55
  refine lp_for (F := fun s : Int32 × px_M => F_96_55 tT 0 (nI gl) (nI i) s.1 s.2) (fun j q => ∃ ρ, q = (nI j, ρ) ∧ fr kn2 σ ρ ∧ (∀ x, x < j → ρ.1 26 x = mb (W x) ∧ ρ.1 25 x = nI 0) ∧ ∀ x, j ≤ x → x < 2048 → ρ.1 25 x = mb (W x)) _ 2048 (fun j q hj hI => ?_) (fun q hI => ?_) 0 (nI 0, σ) (by omega) ⟨σ, rfl, fr_rf _ _, fun x hx => by omega, fun x _ hx => hW x hx⟩
  · obtain ⟨ρ, rfl, g1, g2, g3⟩ := hI
    have hRρ := (mo_k2 g1 hm).1
    have b1 : ¬ nI 2048 ≤ nI j := by rw [nI_leI (by omega) (by omega)]; omega
    have c1 : vp_in (nI j) 2048 := (vp_in_eq (by omega)).mpr (by omega)
    have c2 : (nI j).toNatClampNeg = j := nI_clamp (by omega)
    have hv := g3 j (by omega) hj
    have h01 : (mb (W j) = nI 0 ∨ mb (W j) = nI 1) = True := eq_true (by cases W j <;> simp [mb_t1, mb_f0])
    refine ⟨(nI (j + 1), px_wi (px_wi ρ 26 j (mb (W j))) 25 j (nI 0)), ?_, _, rfl, fr_wi (fr_wi g1 _ rfl) _ rfl, fun x hx => ?_, fun x hx hx2 => ?_⟩
    · dsimp only
      unfold F_96_55
      simp only [la_0, la_25, la_26, rm_0_25 hRρ, rm_0_26 hRρ, b1, gd_tt, oA_arr, px_obj_s, Option.bind_some, Option.map_some, Option.bind_none, eq_self, true_or, or_true, px_av_0, px_av_1, px_av_2, px_av_10, px_av_11, bn, wi_1, wi_2, wl_1, wl_21, wl_22, wr_1, wr_21, wr_22, Sum.elim_inl, Sum.elim_inr, ↓reduceIte, Nat.reduceLT, Nat.reduceLeDiff, not_false_eq_true, not_true_eq_false, Nat.reduceEqDiff, Nat.reduceAdd, reduceCtorEq, and_true, true_and, and_false, false_and, false_or, or_false, c1, c2, hv, h01, nI_add]
    · constructor
      · show px_up (px_up ρ.1 26 j (mb (W j))) 25 j (nI 0) 26 x = _
        rw [px_up_row (by omega), up_s]
        by_cases e : x = j
        · rw [if_pos e, e]
        · rw [if_neg e]; exact (g2 x (by omega)).1
      · show px_up (px_up ρ.1 26 j (mb (W j))) 25 j (nI 0) 25 x = _
        rw [up_s]
        by_cases e : x = j
        · rw [if_pos e]
        · rw [if_neg e, px_up_row (by omega)]; exact (g2 x (by omega)).2
    · show px_up (px_up ρ.1 26 j (mb (W j))) 25 j (nI 0) 25 x = _
      rw [up_s, if_neg (by omega), px_up_row (by omega)]
      exact g3 x (by omega) hx2
  · obtain ⟨ρ, rfl, g1, g2, g3⟩ := hI
    have b1 : nI 2048 ≤ nI 2048 := by rw [nI_leI (by omega) (by omega)]; omega
    obtain ⟨b, y1, υ, K, rfl, y2, y3, y4⟩ := e_round (mo_k2 g1 hm) (W := W) (fun x hx => (g2 x hx).1) (fun x hx => (g2 x hx).2) gl i
    refine ⟨.inl (nI (i + 1), υ), ?_, υ, K, rfl, fr_tr g1 (fr_25 y2), y3, y4⟩
    dsimp only
    unfold F_96_55
    simp only [b1, gd_tt, oA_arr, px_obj_s, Option.bind_some, Option.map_some, Option.bind_none, eq_self, true_or, or_true, px_av_0, px_av_1, px_av_2, px_av_10, px_av_11, bn, wi_1, wi_2, wl_1, wl_21, wl_22, wr_1, wr_21, wr_22, Sum.elim_inl, Sum.elim_inr, ↓reduceIte, Nat.reduceLT, Nat.reduceLeDiff, not_false_eq_true, not_true_eq_false, Nat.reduceEqDiff, Nat.reduceAdd, reduceCtorEq, and_true, true_and, and_false, false_and, false_or, or_false, y1]
theorem lsd_top {W : Nat → Bool} (hn : n ≤ 11) : ∀ k s, bc 11 s + k = 11 → W s = true → ∃ u, W u = true ∧ sbs s u ∧ ¬ lsd n W u := by
  intro k
  induction k with
  | zero =>
    intro s hb hs
    refine ⟨s, hs, sbs_rf _, ?_⟩
    rintro ⟨k, q1, q2, q3⟩
    have h1 := bc_one (j := 11) (by omega) q2
    have h2 := bc_le 11 (s ||| 2 ^ k)
    omega
  | succ k ih =>
    intro s hb hs
    by_cases hl : lsd n W s
    · obtain ⟨k', q1, q2, q3⟩ := hl
      obtain ⟨u, u1, u2, u3⟩ := ih (s ||| 2 ^ k') (by rw [bc_one (by omega) q2]; omega) q3
      exact ⟨u, u1, sbs_tr (sbs_l _ _) u2, u3⟩
    · exact ⟨s, hs, sbs_rf _, hl⟩
theorem e_tellingOf (hm : mo σ n B) {h : Nat} (hh : h < n) {R : Nat} (hRk : kno n B (rc B n 11 (2 ^ h)) R (2 ^ h)) (hRm : ∀ i, i < R → ¬ kno n B (rc B n 11 (2 ^ h)) i (2 ^ h)) (hR10 : R ≤ 10) : ∃ υ, f_96 tT σ 0 (nI h) = some (nI R, υ) ∧ fr SM σ υ := by
  have hw := hm.2.1
  have hn := hw.1
  have hp := pw_le hn
  obtain ⟨υ0, y1, y2⟩ := e_reached hm hh
  have hm0 : mo υ0 n B := mo_on (by decide) y2 hm
  have hgc : gcl n B (rc B n 11 (2 ^ h)) := ⟨by
    apply Nat.lt_pow_two_of_testBit
    intro i hi
    exact tb_ff (rc_in hw hh) hi, rc_11cl hw hh⟩
  have hv0 : vkn n B (rc B n 11 (2 ^ h)) (2 ^ h) := ⟨Nat.pow_lt_pow_right (by omega) hh, rfl⟩
  generalize rc B n 11 (2 ^ h) = g at *
  have hgl := lt_2048 hn hgc.1
  have cg1 : vp_in (nI g) 2048 := (vp_in_eq (by omega)).mpr (by omega)
  have cg2 : (nI g).toNatClampNeg = g := nI_clamp (by omega)
  have main : ∀ ρ0, fr kn2 υ0 ρ0 → (∀ x, x < 2048 → ρ0.1 25 x = mb (decide (x = 2 ^ h))) → ∃ b, f_96_41 tT 0 (nI g) (nI 0) ρ0 = some b ∧ ∃ υ, b = (nI R, υ) ∧ fr kn2 υ0 υ := by
    intro ρ0 f0 hρ0
    unfold f_96_41
    refine lp_rel (F := fun s : Int32 × px_M => F_96_41 tT 0 (nI g) s.1 s.2) (fun i q => ∃ (ρ : px_M) (K : Nat → Bool), q = (nI i, ρ) ∧ fr kn2 υ0 ρ ∧ (∀ x, x < 2048 → ρ.1 25 x = mb (K x)) ∧ (∀ x, K x = true → vkn n B g x) ∧ ∀ m, kno n B g (i + m) (2 ^ h) ↔ ∃ s, K s = true ∧ kno n B g m s) _ R (fun i q hi hI => ?_) 0 (nI 0, ρ0) (by omega) ⟨ρ0, fun x => decide (x = 2 ^ h), rfl, f0, hρ0, fun x hx => ?_, fun m => ?_⟩
    · obtain ⟨ρ, K, rfl, g1, g2, g3, g4⟩ := hI
      have hmρ := mo_k2 g1 hm0
      have hRρ := hmρ.1
      have hKg : K g = true ↔ kno n B g i (2 ^ h) := by
        rw [show i = i + 0 from rfl, g4]
        constructor
        · intro q; exact ⟨g, q, sbs_rf _⟩
        · rintro ⟨s, q1, q2⟩
          have : s = g := sbs_eq (vkn_sub (g3 s q1)) q2
          rw [← this]; exact q1
      have hv := g2 g hgl
      cases hk : K g with
      | true =>
        rw [hk, mb_t1] at hv
        have hki := hKg.mp hk
        have hiR : i = R := by
          rcases Nat.lt_or_ge i R with z | z
          · exact absurd hki (hRm i z)
          · omega
        subst hiR
        refine Or.inr ⟨(nI i, ρ), ?_, ρ, rfl, g1⟩
        dsimp only
        unfold F_96_41
        simp only [la_0, la_25, rm_0_25 hRρ, gd_tt, oA_arr, px_obj_s, Option.bind_some, Option.map_some, Option.bind_none, eq_self, true_or, or_true, px_av_0, px_av_1, px_av_2, px_av_10, px_av_11, bn, wi_1, wi_2, wl_1, wl_21, wl_22, wr_1, wr_21, wr_22, Sum.elim_inl, Sum.elim_inr, ↓reduceIte, Nat.reduceLT, Nat.reduceLeDiff, not_false_eq_true, not_true_eq_false, Nat.reduceEqDiff, Nat.reduceAdd, reduceCtorEq, and_true, true_and, and_false, false_and, false_or, or_false, cg1, cg2, hv, n10]
      | false =>
        rw [hk, mb_f0] at hv
        have hiR : i ≠ R := fun e => by
          rw [← e] at hRk
          rw [hKg.mpr hRk] at hk
          cases hk
        obtain ⟨b, z1, υ, K', rfl, z2, z3, z4⟩ := e_aside hmρ g2 g i
        refine Or.inl ⟨(nI (i + 1), υ), ?_, by omega, υ, K', rfl, fr_tr g1 z2, z3, fun x hx => ?_, fun m => ?_⟩
        · dsimp only
          unfold F_96_41
          simp only [la_0, la_25, rm_0_25 hRρ, gd_tt, oA_arr, px_obj_s, Option.bind_some, Option.map_some, Option.bind_none, eq_self, true_or, or_true, px_av_0, px_av_1, px_av_2, px_av_10, px_av_11, bn, wi_1, wi_2, wl_1, wl_21, wl_22, wr_1, wr_21, wr_22, Sum.elim_inl, Sum.elim_inr, ↓reduceIte, Nat.reduceLT, Nat.reduceLeDiff, not_false_eq_true, not_true_eq_false, Nat.reduceEqDiff, Nat.reduceAdd, reduceCtorEq, and_true, true_and, and_false, false_and, false_or, or_false, cg1, cg2, hv, z1]
        · obtain ⟨s, q1, q2, q3, T, q4, rfl⟩ := (z4 x).mp hx
          exact vkn_tld hw hgc (g3 s q2) q4
        · rw [show i + 1 + m = i + (m + 1) by omega, g4]
          constructor
          · rintro ⟨s, q1, q2⟩
            have := bc_le 11 s
            obtain ⟨u, u1, u2, u3⟩ := lsd_top (n := n) (W := K) hn (11 - bc 11 s) s (by omega) q1
            obtain ⟨T, t1, t2⟩ := kno_mono hn (m + 1) s u u2 q2
            exact ⟨u ||| T, (z4 _).mpr ⟨u, (g3 u u1).1, u1, u3, T, t1, rfl⟩, t2⟩
          · rintro ⟨x, q1, q2⟩
            obtain ⟨s, q3, q4, q5, T, q6, rfl⟩ := (z4 x).mp q1
            exact ⟨s, q4, T, q6, q2⟩
    · rw [decide_eq_true_eq] at hx
      rw [hx]; exact hv0
    · rw [Nat.zero_add]
      constructor
      · intro q; exact ⟨2 ^ h, decide_eq_true rfl, q⟩
      · rintro ⟨s, q1, q2⟩
        rw [decide_eq_true_eq] at q1
        rw [← q1]; exact q2
  have h1h := ni_1s (j := h) (by omega)
  have hpl : 2 ^ h < 2048 := pw_lt (by omega)
  have init : ∃ b, f_96_8 tT 0 (nI h) (nI g) (nI 0) υ0 = some b ∧ ∃ υ, b = (nI R, υ) ∧ fr kn2 υ0 υ := by
    unfold f_96_8
    refine lp_for (F := fun s : Int32 × px_M => F_96_8 tT 0 (nI h) (nI g) s.1 s.2) (fun j q => ∃ ρ, q = (nI j, ρ) ∧ fr kn2 υ0 ρ ∧ ∀ x, x < j → ρ.1 25 x = mb (decide (x = 2 ^ h))) _ 2048 (fun j q hj hI => ?_) (fun q hI => ?_) 0 (nI 0, υ0) (by omega) ⟨υ0, rfl, fr_rf _ _, fun x hx => by omega⟩
    · obtain ⟨ρ, rfl, g1, g2⟩ := hI
      have hRρ := (mo_k2 g1 hm0).1
      have b1 : ¬ nI 2048 ≤ nI j := by rw [nI_leI (by omega) (by omega)]; omega
      have c1 : vp_in (nI j) 2048 := (vp_in_eq (by omega)).mpr (by omega)
      have c2 : (nI j).toNatClampNeg = j := nI_clamp (by omega)
      refine ⟨(nI (j + 1), px_wi ρ 25 j (mb (decide (j = 2 ^ h)))), ?_, _, rfl, fr_wi g1 _ rfl, fun x hx => ?_⟩
      · dsimp only
        by_cases e : j = 2 ^ h
        · have e' : (nI j = nI (2 ^ h)) = True := eq_true (by rw [e])
          rw [decide_eq_true e, mb_t1]
          unfold F_96_8
          simp only [la_0, la_25, rm_0_25 hRρ, b1, gd_tt, oA_arr, px_obj_s, Option.bind_some, Option.map_some, Option.bind_none, eq_self, true_or, or_true, px_av_0, px_av_1, px_av_2, px_av_10, px_av_11, bn, wi_1, wi_2, wl_1, wl_21, wl_22, wr_1, wr_21, wr_22, Sum.elim_inl, Sum.elim_inr, ↓reduceIte, Nat.reduceLT, Nat.reduceLeDiff, not_false_eq_true, not_true_eq_false, Nat.reduceEqDiff, Nat.reduceAdd, reduceCtorEq, and_true, true_and, and_false, false_and, false_or, or_false, h1h, e', c1, c2, nI_add]
        · have e' : ¬ nI j = nI (2 ^ h) := by rw [nI_eq (by omega) (by omega)]; exact e
          rw [decide_eq_false e, mb_f0]
          unfold F_96_8
          simp only [la_0, la_25, rm_0_25 hRρ, b1, gd_tt, oA_arr, px_obj_s, Option.bind_some, Option.map_some, Option.bind_none, eq_self, true_or, or_true, px_av_0, px_av_1, px_av_2, px_av_10, px_av_11, bn, wi_1, wi_2, wl_1, wl_21, wl_22, wr_1, wr_21, wr_22, Sum.elim_inl, Sum.elim_inr, ↓reduceIte, Nat.reduceLT, Nat.reduceLeDiff, not_false_eq_true, not_true_eq_false, Nat.reduceEqDiff, Nat.reduceAdd, reduceCtorEq, and_true, true_and, and_false, false_and, false_or, or_false, h1h, e', c1, c2, nI_add]
      · show px_up ρ.1 25 j _ 25 x = _
        rw [up_s]
        by_cases e : x = j
        · rw [if_pos e, e]
        · rw [if_neg e]; exact g2 x (by omega)
    · obtain ⟨ρ, rfl, g1, g2⟩ := hI
      have b1 : nI 2048 ≤ nI 2048 := by rw [nI_leI (by omega) (by omega)]; omega
      obtain ⟨b, z1, υ, rfl, z2⟩ := main ρ g1 g2
      refine ⟨(nI R, υ), ?_, υ, rfl, z2⟩
      dsimp only
      unfold F_96_8
      simp only [b1, gd_tt, oA_arr, px_obj_s, Option.bind_some, Option.map_some, Option.bind_none, eq_self, true_or, or_true, px_av_0, px_av_1, px_av_2, px_av_10, px_av_11, bn, wi_1, wi_2, wl_1, wl_21, wl_22, wr_1, wr_21, wr_22, Sum.elim_inl, Sum.elim_inr, ↓reduceIte, Nat.reduceLT, Nat.reduceLeDiff, not_false_eq_true, not_true_eq_false, Nat.reduceEqDiff, Nat.reduceAdd, reduceCtorEq, and_true, true_and, and_false, false_and, false_or, or_false, z1]
  obtain ⟨b, z1, υ, rfl, z2⟩ := init
  refine ⟨υ, ?_, fr_tr (fr_15 y2) (fr_k2 z2)⟩
  simp only [f_96, la_0, gd_tt, oA_arr, px_obj_s, Option.bind_some, Option.map_some, Option.bind_none, eq_self, true_or, or_true, px_av_0, px_av_1, px_av_2, px_av_10, px_av_11, bn, wi_1, wi_2, wl_1, wl_21, wl_22, wr_1, wr_21, wr_22, Sum.elim_inl, Sum.elim_inr, ↓reduceIte, Nat.reduceLT, Nat.reduceLeDiff, not_false_eq_true, not_true_eq_false, Nat.reduceEqDiff, Nat.reduceAdd, reduceCtorEq, and_true, true_and, and_false, false_and, false_or, or_false, y1, z1]
end
