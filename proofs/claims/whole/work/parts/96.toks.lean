/-! the class's tokens -/
def sb (c : Nat) : Int32 := (nI c).toInt8.toInt32
theorem sb_lo : ∀ c, c < 128 → sb c = nI c := by decide +kernel
theorem sb_hi : ∀ c, c < 128 → sb (128 + c) < nI 0 := by decide +kernel
theorem sb_cases {c : Nat} (hc : c < 256) : (c < 128 ∧ sb c = nI c) ∨ (128 ≤ c ∧ sb c < nI 0) := by
  by_cases h : c < 128
  · exact Or.inl ⟨h, sb_lo c h⟩
  · have := sb_hi (c - 128) (by omega)
    rw [show 128 + (c - 128) = c by omega] at this
    exact Or.inr ⟨by omega, this⟩
theorem sb_eq {c k : Nat} (hc : c < 256) (hk : k < 128) : sb c = nI k ↔ c = k := by
  rcases sb_cases hc with ⟨h, e⟩ | ⟨h, e⟩
  · rw [e, nI_eq (by omega) (by omega)]
  · constructor
    · intro q
      rw [q, nI_ltI (by omega) (by omega)] at e
      omega
    · intro q; omega
theorem sb_lt {c k : Nat} (hc : c < 256) (hk : k < 128) : sb c < nI k ↔ c < k ∨ 128 ≤ c := by
  rcases sb_cases hc with ⟨h, e⟩ | ⟨h, e⟩
  · rw [e, nI_ltI (by omega) (by omega)]; omega
  · have e0 : (nI 0).toInt = 0 := by decide
    have ek : (nI k).toInt = k := nI_toInt (by omega)
    rw [fa_lt] at e ⊢
    omega
theorem sb_gt {c k : Nat} (hc : c < 256) (hk : k < 128) : nI k < sb c ↔ k < c ∧ c < 128 := by
  rcases sb_cases hc with ⟨h, e⟩ | ⟨h, e⟩
  · rw [e, nI_ltI (by omega) (by omega)]; omega
  · have e0 : (nI 0).toInt = 0 := by decide
    have ek : (nI k).toInt = k := nI_toInt (by omega)
    rw [fa_lt] at e ⊢
    omega
theorem sb_le0 {c : Nat} (hc : c < 256) : sb c ≤ nI 0 ↔ c = 0 ∨ 128 ≤ c := by
  rcases sb_cases hc with ⟨h, e⟩ | ⟨h, e⟩
  · rw [e, nI_leI (by omega) (by omega)]; omega
  · have e0 : (nI 0).toInt = 0 := by decide
    rw [fa_lt] at e
    rw [fa_le]
    omega
def tpc (σ : px_M) (b : Nat → Nat) (e : Nat) : Prop := cR σ.2.2 ∧ σ.1 150 7 = nI e ∧ e ≤ 900 ∧ (∀ i, i < 900 → σ.1 151 i = sb (b i)) ∧ ∀ i, b i < 256
def tcd (κ v : Nat) : Nat := if κ = 16 then v else if 20 ≤ κ then 4000 + SGf (κ - 20) else ([1004, 3000, 3001, 3002, 2008, 2007, 2006, 1000, 1001, 1002, 1003, 1005, 1006, 1007, 1008, 3003, 0, 3005, 3004] : List Nat).getD κ 0
section
variable {σ τ : px_M} {b : Nat → Nat} {e p s q : Nat}
theorem tpc_fr {S : Nat → Nat → Bool} (h : fr S σ τ) (h0 : S 150 7 = false) (h1 : ∀ j, S 151 j = false) (ht : tpc σ b e) : tpc τ b e := ⟨cR_fr h ht.1, by rw [h.1 150 7 h0]; exact ht.2.1, ht.2.2.1, fun i hi => by rw [h.1 151 i (h1 i)]; exact ht.2.2.2.1 i hi, ht.2.2.2.2⟩
theorem k_byte (ht : tpc σ b e) (hp : p ≤ 900) : f_9006 tT σ 150 (nI p) = some (if p < e then sb (b p) else nI 0) := by
  obtain ⟨hR, h7, he, hb, -⟩ := ht
  have a0 : ¬ nI p < nI 0 := by rw [nI_ltI (by omega) (by omega)]; omega
  unfold f_9006
  by_cases h : p < e
  · have a1 : ¬ nI e ≤ nI p := by rw [nI_leI (by omega) (by omega)]; omega
    have c1 : vp_in (nI p) 900 := (vp_in_eq (by omega)).mpr (by omega)
    have c2 : (nI p).toNatClampNeg = p := nI_clamp (by omega)
    simp only [la_150, la_151, rc_150_4 hR, h7, a0, a1, c1, c2, hb p (by omega), h, gd_tt, oA_arr, px_obj_s, Option.bind_some, Option.map_some, Option.bind_none, eq_self, true_or, or_true, px_av_0, px_av_1, px_av_2, px_av_10, px_av_11, bn, wi_1, wi_2, wl_1, wl_21, wl_22, wr_1, wr_21, wr_22, Sum.elim_inl, Sum.elim_inr, ↓reduceIte, Nat.reduceLT, Nat.reduceLeDiff, not_false_eq_true, not_true_eq_false, Nat.reduceEqDiff, Nat.reduceAdd, reduceCtorEq, and_true, true_and, and_false, false_and, false_or, or_false]
  · have a1 : nI e ≤ nI p := by rw [nI_leI (by omega) (by omega)]; omega
    simp only [la_150, h7, a0, a1, h, gd_tt, oA_arr, px_obj_s, Option.bind_some, Option.map_some, Option.bind_none, eq_self, true_or, or_true, px_av_0, px_av_1, px_av_2, px_av_10, px_av_11, bn, wi_1, wi_2, wl_1, wl_21, wl_22, wr_1, wr_21, wr_22, Sum.elim_inl, Sum.elim_inr, ↓reduceIte, Nat.reduceLT, Nat.reduceLeDiff, not_false_eq_true, not_true_eq_false, Nat.reduceEqDiff, Nat.reduceAdd, reduceCtorEq, and_true, true_and, and_false, false_and, false_or, or_false]
theorem k_blank (ht : tpc σ b e) (hp : p < e) : f_9007 tT σ 150 (nI p) = some (@ite _ (blk b p) (Classical.propDecidable _) (nI 1) (nI 0)) := by
  have he := ht.2.2.1
  have hb := ht.2.2.2.2 p
  have kb := k_byte ht (p := p) (by omega)
  rw [if_pos hp] at kb
  unfold f_9007 f_9007_20
  by_cases h1 : b p = 10
  · rw [if_pos (show blk b p from Or.inl h1)]
    simp only [la_150, kb, (sb_eq hb (by omega)).mpr h1, gd_tt, oA_arr, px_obj_s, Option.bind_some, Option.map_some, Option.bind_none, eq_self, true_or, or_true, px_av_0, px_av_1, px_av_2, px_av_10, px_av_11, bn, wi_1, wi_2, wl_1, wl_21, wl_22, wr_1, wr_21, wr_22, Sum.elim_inl, Sum.elim_inr, ↓reduceIte, Nat.reduceLT, Nat.reduceLeDiff, not_false_eq_true, not_true_eq_false, Nat.reduceEqDiff, Nat.reduceAdd, reduceCtorEq, and_true, true_and, and_false, false_and, false_or, or_false]
  · have a1 : ¬ sb (b p) = nI 10 := mt (sb_eq hb (by omega)).mp h1
    by_cases h2 : b p = 32
    · rw [if_pos (show blk b p from Or.inr h2)]
      have z1 : ¬ nI 32 = nI 10 := by decide
      simp only [la_150, kb, (sb_eq hb (by omega)).mpr h2, z1, gd_tt, oA_arr, px_obj_s, Option.bind_some, Option.map_some, Option.bind_none, eq_self, true_or, or_true, px_av_0, px_av_1, px_av_2, px_av_10, px_av_11, bn, wi_1, wi_2, wl_1, wl_21, wl_22, wr_1, wr_21, wr_22, Sum.elim_inl, Sum.elim_inr, ↓reduceIte, Nat.reduceLT, Nat.reduceLeDiff, not_false_eq_true, not_true_eq_false, Nat.reduceEqDiff, Nat.reduceAdd, reduceCtorEq, and_true, true_and, and_false, false_and, false_or, or_false]
    · have a2 : ¬ sb (b p) = nI 32 := mt (sb_eq hb (by omega)).mp h2
      rw [if_neg (show ¬ blk b p from fun h => by rcases h with h | h <;> contradiction)]
      simp only [la_150, kb, a1, a2, gd_tt, oA_arr, px_obj_s, Option.bind_some, Option.map_some, Option.bind_none, eq_self, true_or, or_true, px_av_0, px_av_1, px_av_2, px_av_10, px_av_11, bn, wi_1, wi_2, wl_1, wl_21, wl_22, wr_1, wr_21, wr_22, Sum.elim_inl, Sum.elim_inr, ↓reduceIte, Nat.reduceLT, Nat.reduceLeDiff, not_false_eq_true, not_true_eq_false, Nat.reduceEqDiff, Nat.reduceAdd, reduceCtorEq, and_true, true_and, and_false, false_and, false_or, or_false]
theorem k_letter (ht : tpc σ b e) (hp : p < e) : f_9008 tT σ 150 (nI p) = some (@ite _ (ltr b p) (Classical.propDecidable _) (nI 1) (nI 0)) := by
  have he := ht.2.2.1
  have hb := ht.2.2.2.2 p
  have kb := k_byte ht (p := p) (by omega)
  rw [if_pos hp] at kb
  unfold f_9008 f_9008_24
  by_cases h1 : b p < 97 ∨ 128 ≤ b p
  · rw [if_neg (show ¬ ltr b p from fun h => by unfold ltr at h; omega)]
    simp only [la_150, kb, (sb_lt hb (show 97 < 128 by omega)).mpr h1, gd_tt, oA_arr, px_obj_s, Option.bind_some, Option.map_some, Option.bind_none, eq_self, true_or, or_true, px_av_0, px_av_1, px_av_2, px_av_10, px_av_11, bn, wi_1, wi_2, wl_1, wl_21, wl_22, wr_1, wr_21, wr_22, Sum.elim_inl, Sum.elim_inr, ↓reduceIte, Nat.reduceLT, Nat.reduceLeDiff, not_false_eq_true, not_true_eq_false, Nat.reduceEqDiff, Nat.reduceAdd, reduceCtorEq, and_true, true_and, and_false, false_and, false_or, or_false]
  · have a1 : ¬ sb (b p) < nI 97 := mt (sb_lt hb (by omega)).mp h1
    by_cases h2 : 122 < b p ∧ b p < 128
    · rw [if_neg (show ¬ ltr b p from fun h => by unfold ltr at h; omega)]
      simp only [la_150, kb, a1, (sb_gt hb (show 122 < 128 by omega)).mpr h2, gd_tt, oA_arr, px_obj_s, Option.bind_some, Option.map_some, Option.bind_none, eq_self, true_or, or_true, px_av_0, px_av_1, px_av_2, px_av_10, px_av_11, bn, wi_1, wi_2, wl_1, wl_21, wl_22, wr_1, wr_21, wr_22, Sum.elim_inl, Sum.elim_inr, ↓reduceIte, Nat.reduceLT, Nat.reduceLeDiff, not_false_eq_true, not_true_eq_false, Nat.reduceEqDiff, Nat.reduceAdd, reduceCtorEq, and_true, true_and, and_false, false_and, false_or, or_false]
    · have a2 : ¬ nI 122 < sb (b p) := mt (sb_gt hb (by omega)).mp h2
      rw [if_pos (show ltr b p from ⟨by omega, by omega⟩)]
      simp only [la_150, kb, a1, a2, gd_tt, oA_arr, px_obj_s, Option.bind_some, Option.map_some, Option.bind_none, eq_self, true_or, or_true, px_av_0, px_av_1, px_av_2, px_av_10, px_av_11, bn, wi_1, wi_2, wl_1, wl_21, wl_22, wr_1, wr_21, wr_22, Sum.elim_inl, Sum.elim_inr, ↓reduceIte, Nat.reduceLT, Nat.reduceLeDiff, not_false_eq_true, not_true_eq_false, Nat.reduceEqDiff, Nat.reduceAdd, reduceCtorEq, and_true, true_and, and_false, false_and, false_or, or_false]
theorem k_digit (ht : tpc σ b e) (hp : p < e) : f_9009 tT σ 150 (nI p) = some (@ite _ (dgt b p) (Classical.propDecidable _) (nI 1) (nI 0)) := by
  have he := ht.2.2.1
  have hb := ht.2.2.2.2 p
  have kb := k_byte ht (p := p) (by omega)
  rw [if_pos hp] at kb
  unfold f_9009 f_9009_24
  by_cases h1 : b p < 48 ∨ 128 ≤ b p
  · rw [if_neg (show ¬ dgt b p from fun h => by unfold dgt at h; omega)]
    simp only [la_150, kb, (sb_lt hb (show 48 < 128 by omega)).mpr h1, gd_tt, oA_arr, px_obj_s, Option.bind_some, Option.map_some, Option.bind_none, eq_self, true_or, or_true, px_av_0, px_av_1, px_av_2, px_av_10, px_av_11, bn, wi_1, wi_2, wl_1, wl_21, wl_22, wr_1, wr_21, wr_22, Sum.elim_inl, Sum.elim_inr, ↓reduceIte, Nat.reduceLT, Nat.reduceLeDiff, not_false_eq_true, not_true_eq_false, Nat.reduceEqDiff, Nat.reduceAdd, reduceCtorEq, and_true, true_and, and_false, false_and, false_or, or_false]
  · have a1 : ¬ sb (b p) < nI 48 := mt (sb_lt hb (by omega)).mp h1
    by_cases h2 : 57 < b p ∧ b p < 128
    · rw [if_neg (show ¬ dgt b p from fun h => by unfold dgt at h; omega)]
      simp only [la_150, kb, a1, (sb_gt hb (show 57 < 128 by omega)).mpr h2, gd_tt, oA_arr, px_obj_s, Option.bind_some, Option.map_some, Option.bind_none, eq_self, true_or, or_true, px_av_0, px_av_1, px_av_2, px_av_10, px_av_11, bn, wi_1, wi_2, wl_1, wl_21, wl_22, wr_1, wr_21, wr_22, Sum.elim_inl, Sum.elim_inr, ↓reduceIte, Nat.reduceLT, Nat.reduceLeDiff, not_false_eq_true, not_true_eq_false, Nat.reduceEqDiff, Nat.reduceAdd, reduceCtorEq, and_true, true_and, and_false, false_and, false_or, or_false]
    · have a2 : ¬ nI 57 < sb (b p) := mt (sb_gt hb (by omega)).mp h2
      rw [if_pos (show dgt b p from ⟨by omega, by omega⟩)]
      simp only [la_150, kb, a1, a2, gd_tt, oA_arr, px_obj_s, Option.bind_some, Option.map_some, Option.bind_none, eq_self, true_or, or_true, px_av_0, px_av_1, px_av_2, px_av_10, px_av_11, bn, wi_1, wi_2, wl_1, wl_21, wl_22, wr_1, wr_21, wr_22, Sum.elim_inl, Sum.elim_inr, ↓reduceIte, Nat.reduceLT, Nat.reduceLeDiff, not_false_eq_true, not_true_eq_false, Nat.reduceEqDiff, Nat.reduceAdd, reduceCtorEq, and_true, true_and, and_false, false_and, false_or, or_false]
theorem k_run (ht : tpc σ b e) (hse : s < e) : (ltr b s → ∃ q, f_9010_12 tT σ 150 (nI (s + 1)) = some (nI q) ∧ run (ltr b) e s q) ∧ (dgt b s → ∃ q, f_9010_42 tT σ 150 (nI (s + 1)) = some (nI q) ∧ run (dgt b) e s q) := by
  have he := ht.2.2.1
  have h7 := ht.2.1
  constructor
  · intro hl
    have key : ∀ k q, q + k = e → s < q → (∀ i, s ≤ i → i < q → ltr b i) → ∃ q', f_9010_12 tT σ 150 (nI q) = some (nI q') ∧ run (ltr b) e s q' := by
      intro k
      induction k with
      | zero =>
        intro q hq hsq hin
        have a1 : nI e ≤ nI q := by rw [nI_leI (by omega) (by omega)]; omega
        refine ⟨q, ?_, hsq, by omega, hin, Or.inl (by omega)⟩
        unfold f_9010_12
        refine lp_end ?_
        unfold F_9010_12 f_9010_64
        simp only [la_150, h7, a1, gd_tt, oA_arr, px_obj_s, Option.bind_some, Option.map_some, Option.bind_none, eq_self, true_or, or_true, px_av_0, px_av_1, px_av_2, px_av_10, px_av_11, bn, wi_1, wi_2, wl_1, wl_21, wl_22, wr_1, wr_21, wr_22, Sum.elim_inl, Sum.elim_inr, ↓reduceIte, Nat.reduceLT, Nat.reduceLeDiff, not_false_eq_true, not_true_eq_false, Nat.reduceEqDiff, Nat.reduceAdd, reduceCtorEq, and_true, true_and, and_false, false_and, false_or, or_false]
      | succ k ih =>
        intro q hq hsq hin
        have a1 : ¬ nI e ≤ nI q := by rw [nI_leI (by omega) (by omega)]; omega
        have kl := k_letter ht (p := q) (by omega)
        by_cases hlq : ltr b q
        · rw [if_pos hlq] at kl
          obtain ⟨q', y1, y2⟩ := ih (q + 1) (by omega) (by omega) (fun i h1 h2 => by
            by_cases hiq : i = q
            · subst hiq; exact hlq
            · exact hin i h1 (by omega))
          refine ⟨q', ?_, y2⟩
          unfold f_9010_12 at y1 ⊢
          rw [lp_next (a' := nI (q + 1)) (by
            unfold F_9010_12
            simp only [la_150, h7, a1, kl, n10, nI_add, gd_tt, oA_arr, px_obj_s, Option.bind_some, Option.map_some, Option.bind_none, eq_self, true_or, or_true, px_av_0, px_av_1, px_av_2, px_av_10, px_av_11, bn, wi_1, wi_2, wl_1, wl_21, wl_22, wr_1, wr_21, wr_22, Sum.elim_inl, Sum.elim_inr, ↓reduceIte, Nat.reduceLT, Nat.reduceLeDiff, not_false_eq_true, not_true_eq_false, Nat.reduceEqDiff, Nat.reduceAdd, reduceCtorEq, and_true, true_and, and_false, false_and, false_or, or_false])]
          exact y1
        · rw [if_neg hlq] at kl
          refine ⟨q, ?_, hsq, by omega, hin, Or.inr hlq⟩
          unfold f_9010_12
          refine lp_end ?_
          unfold F_9010_12 f_9010_64
          simp only [la_150, h7, a1, kl, gd_tt, oA_arr, px_obj_s, Option.bind_some, Option.map_some, Option.bind_none, eq_self, true_or, or_true, px_av_0, px_av_1, px_av_2, px_av_10, px_av_11, bn, wi_1, wi_2, wl_1, wl_21, wl_22, wr_1, wr_21, wr_22, Sum.elim_inl, Sum.elim_inr, ↓reduceIte, Nat.reduceLT, Nat.reduceLeDiff, not_false_eq_true, not_true_eq_false, Nat.reduceEqDiff, Nat.reduceAdd, reduceCtorEq, and_true, true_and, and_false, false_and, false_or, or_false]
    exact key (e - (s + 1)) (s + 1) (by omega) (by omega) (fun i h1 h2 => by
      have : i = s := by omega
      subst this; exact hl)
  · intro hl
    have key : ∀ k q, q + k = e → s < q → (∀ i, s ≤ i → i < q → dgt b i) → ∃ q', f_9010_42 tT σ 150 (nI q) = some (nI q') ∧ run (dgt b) e s q' := by
      intro k
      induction k with
      | zero =>
        intro q hq hsq hin
        have a1 : nI e ≤ nI q := by rw [nI_leI (by omega) (by omega)]; omega
        refine ⟨q, ?_, hsq, by omega, hin, Or.inl (by omega)⟩
        unfold f_9010_42
        refine lp_end ?_
        unfold F_9010_42 f_9010_64
        simp only [la_150, h7, a1, gd_tt, oA_arr, px_obj_s, Option.bind_some, Option.map_some, Option.bind_none, eq_self, true_or, or_true, px_av_0, px_av_1, px_av_2, px_av_10, px_av_11, bn, wi_1, wi_2, wl_1, wl_21, wl_22, wr_1, wr_21, wr_22, Sum.elim_inl, Sum.elim_inr, ↓reduceIte, Nat.reduceLT, Nat.reduceLeDiff, not_false_eq_true, not_true_eq_false, Nat.reduceEqDiff, Nat.reduceAdd, reduceCtorEq, and_true, true_and, and_false, false_and, false_or, or_false]
      | succ k ih =>
        intro q hq hsq hin
        have a1 : ¬ nI e ≤ nI q := by rw [nI_leI (by omega) (by omega)]; omega
        have kl := k_digit ht (p := q) (by omega)
        by_cases hlq : dgt b q
        · rw [if_pos hlq] at kl
          obtain ⟨q', y1, y2⟩ := ih (q + 1) (by omega) (by omega) (fun i h1 h2 => by
            by_cases hiq : i = q
            · subst hiq; exact hlq
            · exact hin i h1 (by omega))
          refine ⟨q', ?_, y2⟩
          unfold f_9010_42 at y1 ⊢
          rw [lp_next (a' := nI (q + 1)) (by
            unfold F_9010_42
            simp only [la_150, h7, a1, kl, n10, nI_add, gd_tt, oA_arr, px_obj_s, Option.bind_some, Option.map_some, Option.bind_none, eq_self, true_or, or_true, px_av_0, px_av_1, px_av_2, px_av_10, px_av_11, bn, wi_1, wi_2, wl_1, wl_21, wl_22, wr_1, wr_21, wr_22, Sum.elim_inl, Sum.elim_inr, ↓reduceIte, Nat.reduceLT, Nat.reduceLeDiff, not_false_eq_true, not_true_eq_false, Nat.reduceEqDiff, Nat.reduceAdd, reduceCtorEq, and_true, true_and, and_false, false_and, false_or, or_false])]
          exact y1
        · rw [if_neg hlq] at kl
          refine ⟨q, ?_, hsq, by omega, hin, Or.inr hlq⟩
          unfold f_9010_42
          refine lp_end ?_
          unfold F_9010_42 f_9010_64
          simp only [la_150, h7, a1, kl, gd_tt, oA_arr, px_obj_s, Option.bind_some, Option.map_some, Option.bind_none, eq_self, true_or, or_true, px_av_0, px_av_1, px_av_2, px_av_10, px_av_11, bn, wi_1, wi_2, wl_1, wl_21, wl_22, wr_1, wr_21, wr_22, Sum.elim_inl, Sum.elim_inr, ↓reduceIte, Nat.reduceLT, Nat.reduceLeDiff, not_false_eq_true, not_true_eq_false, Nat.reduceEqDiff, Nat.reduceAdd, reduceCtorEq, and_true, true_and, and_false, false_and, false_or, or_false]
    exact key (e - (s + 1)) (s + 1) (by omega) (by omega) (fun i h1 h2 => by
      have : i = s := by omega
      subst this; exact hl)
theorem k_spell (ht : tpc σ b e) {L i : Nat} (hi : i < 15) (l1 : px_lay tT L = some (.inl 23)) (l2 : px_lay tT (L + 100) = some (.inr (10, wln i))) (hx : ∀ j, j < wln i → pn_xv (L + 100) j = nI (TX (wp i + j))) (hsq : s < q) (hq : q ≤ e) : f_9014 tT σ 150 L (nI s) (nI q) = some (@ite _ (eqw b s q i) (Classical.propDecidable _) (nI 1) (nI 0)) := by
  have he := ht.2.2.1
  obtain ⟨w1, w2, w3, w4, w5⟩ := wp_ok i hi
  have ln := x_len (σ := σ) l1 l2 (by omega)
  have ch : ∀ j, j < wln i → f_23002 tT σ L (nI j) = some (nI (TX (wp i + j))) := fun j hj => x_char l1 l2 (by omega) hj (hx j hj) (TX_v _ (by omega)).2
  unfold f_9014
  rw [ni_subL (show s ≤ q by omega)]
  by_cases hlen : wln i = q - s
  · have key : ∀ k m, m + k = wln i → (∀ j, j < m → b (s + j) = TX (wp i + j)) → f_9014_15 tT σ 150 L (nI s) (nI m) = some (@ite _ (eqw b s q i) (Classical.propDecidable _) (nI 1) (nI 0)) := by
      intro k
      induction k with
      | zero =>
        intro m hm hpre
        have a1 : nI (wln i) ≤ nI m := by rw [nI_leI (by omega) (by omega)]; omega
        rw [if_pos (show eqw b s q i from ⟨by omega, fun j hj => hpre j (by omega)⟩)]
        unfold f_9014_15
        refine lp_end ?_
        unfold F_9014_15
        simp only [l1, ln, a1, gd_tt, oA_arr, px_obj_s, Option.bind_some, Option.map_some, Option.bind_none, eq_self, true_or, or_true, px_av_0, px_av_1, px_av_2, px_av_10, px_av_11, bn, wi_1, wi_2, wl_1, wl_21, wl_22, wr_1, wr_21, wr_22, Sum.elim_inl, Sum.elim_inr, ↓reduceIte, Nat.reduceLT, Nat.reduceLeDiff, not_false_eq_true, not_true_eq_false, Nat.reduceEqDiff, Nat.reduceAdd, reduceCtorEq, and_true, true_and, and_false, false_and, false_or, or_false]
      | succ k ih =>
        intro m hm hpre
        have a1 : ¬ nI (wln i) ≤ nI m := by rw [nI_leI (by omega) (by omega)]; omega
        have kb := k_byte ht (p := s + m) (by omega)
        rw [if_pos (show s + m < e by omega)] at kb
        have hb := ht.2.2.2.2 (s + m)
        have hT := (TX_v (wp i + m) (by omega)).2
        by_cases hc : b (s + m) = TX (wp i + m)
        · have := ih (m + 1) (by omega) (fun j hj => by
            by_cases hjm : j = m
            · subst hjm; exact hc
            · exact hpre j (by omega))
          unfold f_9014_15 at this ⊢
          rw [lp_next (a' := nI (m + 1)) (by
            unfold F_9014_15
            simp only [l1, la_150, ln, a1, nI_add, kb, ch m (by omega), (sb_eq hb hT).mpr hc, gd_tt, oA_arr, px_obj_s, Option.bind_some, Option.map_some, Option.bind_none, eq_self, true_or, or_true, px_av_0, px_av_1, px_av_2, px_av_10, px_av_11, bn, wi_1, wi_2, wl_1, wl_21, wl_22, wr_1, wr_21, wr_22, Sum.elim_inl, Sum.elim_inr, ↓reduceIte, Nat.reduceLT, Nat.reduceLeDiff, not_false_eq_true, not_true_eq_false, Nat.reduceEqDiff, Nat.reduceAdd, reduceCtorEq, and_true, true_and, and_false, false_and, false_or, or_false])]
          exact this
        · rw [if_neg (show ¬ eqw b s q i from fun h => hc (h.2 m (by omega)))]
          have a2 : ¬ sb (b (s + m)) = nI (TX (wp i + m)) := mt (sb_eq hb hT).mp hc
          unfold f_9014_15
          refine lp_end ?_
          unfold F_9014_15
          simp only [l1, la_150, ln, a1, nI_add, kb, ch m (by omega), a2, gd_tt, oA_arr, px_obj_s, Option.bind_some, Option.map_some, Option.bind_none, eq_self, true_or, or_true, px_av_0, px_av_1, px_av_2, px_av_10, px_av_11, bn, wi_1, wi_2, wl_1, wl_21, wl_22, wr_1, wr_21, wr_22, Sum.elim_inl, Sum.elim_inr, ↓reduceIte, Nat.reduceLT, Nat.reduceLeDiff, not_false_eq_true, not_true_eq_false, Nat.reduceEqDiff, Nat.reduceAdd, reduceCtorEq, and_true, true_and, and_false, false_and, false_or, or_false]
    have := key (wln i) 0 (by omega) (fun j hj => by omega)
    rw [hlen] at ln
    simp only [l1, ln, gd_tt, oA_arr, px_obj_s, Option.bind_some, Option.map_some, Option.bind_none, eq_self, true_or, or_true, px_av_0, px_av_1, px_av_2, px_av_10, px_av_11, bn, wi_1, wi_2, wl_1, wl_21, wl_22, wr_1, wr_21, wr_22, Sum.elim_inl, Sum.elim_inr, ↓reduceIte, Nat.reduceLT, Nat.reduceLeDiff, not_false_eq_true, not_true_eq_false, Nat.reduceEqDiff, Nat.reduceAdd, reduceCtorEq, and_true, true_and, and_false, false_and, false_or, or_false]
    exact this
  · have a1 : ¬ nI (wln i) = nI (q - s) := by rw [nI_eq (by omega) (by omega)]; exact hlen
    rw [if_neg (show ¬ eqw b s q i from fun h => by have := h.1; omega)]
    simp only [l1, ln, a1, gd_tt, oA_arr, px_obj_s, Option.bind_some, Option.map_some, Option.bind_none, eq_self, true_or, or_true, px_av_0, px_av_1, px_av_2, px_av_10, px_av_11, bn, wi_1, wi_2, wl_1, wl_21, wl_22, wr_1, wr_21, wr_22, Sum.elim_inl, Sum.elim_inr, ↓reduceIte, Nat.reduceLT, Nat.reduceLeDiff, not_false_eq_true, not_true_eq_false, Nat.reduceEqDiff, Nat.reduceAdd, reduceCtorEq, and_true, true_and, and_false, false_and, false_or, or_false]
end
theorem W_v : ∀ c, c < 15 → ∀ j, j < wln (([0, 1, 2, 3, 6, 5, 4, 7, 8, 9, 10, 11, 12, 13, 14] : List Nat).getD c 0) → pn_xv (1103 + c) j = nI (TX (wp (([0, 1, 2, 3, 6, 5, 4, 7, 8, 9, 10, 11, 12, 13, 14] : List Nat).getD c 0) + j)) := by decide +kernel
