/-! cures: the model's searching, the class's -/
section
variable {σ τ : px_M} {t n : Nat} {B : Nat → Nat} {f : Int}
def thr3 (n : Nat) (B : Nat → Nat) (a b c : Nat) : Prop := (a < b ∧ b < c ∧ c < n) ∧ (B a).testBit b = true ∧ (B a).testBit c = true ∧ (B b).testBit c = true
def CK (l j : Nat) : Bool := l == 0 && (j == 32 || j == 33 || j == 34)
theorem SM_CK : ∀ l j, SM l j = false → CK l j = false := fun l j h => by
  cases hq : CK l j with
  | false => rfl
  | true =>
    simp only [CK, Bool.or_eq_true, Bool.and_eq_true, beq_iff_eq] at hq
    rcases hq with ⟨rfl, (rfl | rfl) | rfl⟩ <;> simp [SM] at h
theorem e_laysThree (hm : mo σ n B) : (f_114 tT σ 0 = some (nI 0, σ) ∧ n3 n B) ∨ ∃ a b c, thr3 n B a b c ∧ f_114 tT σ 0 = some (nI 1, px_wi (px_wi (px_wi σ 0 32 (nI a)) 0 33 (nI b)) 0 34 (nI c)) := by
  have hw := hm.2.1
  have hn := hw.1
  obtain ⟨hR, -, e1, -⟩ := id hm
  have k1 : vp_in (nI 1) 3216 := (vp_in_eq (by omega)).mpr (by omega)
  have k2 : (nI 1).toNatClampNeg = 1 := nI_clamp (by omega)
  have nr : ∀ x, x < n → f_31 tT σ 0 (nI x) = some (nI (B x)) := fun x hx => e_near hm (by omega)
  have li : ∀ x, (nI (B x)).toInt64 = lN (B x) := fun x => nI_l (by have := wf_2048 hw x; omega)
  have ii : ∀ x y, y < n → f_14 tT σ (lN (B x)) (nI y) = some (mb ((B x).testBit y)) := fun x y hy => e_isIn σ (by have := wf_2048 hw x; omega) (by omega)
  have key : ∃ b, f_114 tT σ 0 = some b ∧ ((b = (nI 0, σ) ∧ n3 n B) ∨ ∃ a c d, thr3 n B a c d ∧ b = (nI 1, px_wi (px_wi (px_wi σ 0 32 (nI a)) 0 33 (nI c)) 0 34 (nI d))) := by
    unfold f_114 f_114_2
    refine lp_rel (F := fun s : Int32 => F_114_2 tT σ 0 s) (fun a q => q = nI a ∧ ∀ x y z, x < a → ¬ thr3 n B x y z) _ n (fun a q ha hI => ?_) 0 (nI 0) (by omega) ⟨rfl, fun x y z h => by omega⟩
    obtain ⟨rfl, g1⟩ := hI
    by_cases han : a = n
    · subst han
      refine Or.inr ⟨(nI 0, σ), ?_, Or.inl ⟨rfl, fun x y z h1 h2 h3 h4 => g1 x y z (by omega) ⟨⟨h1, h2, h3⟩, h4⟩⟩⟩
      have a1 : nI a ≤ nI a := by rw [nI_leI (by omega) (by omega)]; omega
      show F_114_2 tT σ 0 (nI a) = _
      unfold F_114_2
      simp only [la_0, la_1, rm_0_1 hR, k1, k2, e1, a1, gd_tt, oA_arr, px_obj_s, Option.bind_some, Option.map_some, Option.bind_none, eq_self, true_or, or_true, px_av_0, px_av_1, px_av_2, px_av_10, px_av_11, bn, wi_1, wi_2, wl_1, wl_21, wl_22, wr_1, wr_21, wr_22, Sum.elim_inl, Sum.elim_inr, ↓reduceIte, Nat.reduceLT, Nat.reduceLeDiff, not_false_eq_true, not_true_eq_false, Nat.reduceEqDiff, Nat.reduceAdd, reduceCtorEq, and_true, true_and, and_false, false_and, false_or, or_false]
    · have ha' : a < n := by omega
      have mid : ∃ b, f_114_16 tT σ 0 (nI a) (nI (a + 1)) = some b ∧ ((b = .inl (nI (a + 1)) ∧ ∀ y z, ¬ thr3 n B a y z) ∨ ∃ c d, thr3 n B a c d ∧ b = .inr (nI 1, px_wi (px_wi (px_wi σ 0 32 (nI a)) 0 33 (nI c)) 0 34 (nI d))) := by
        unfold f_114_16
        refine lp_rel (F := fun s : Int32 => F_114_16 tT σ 0 (nI a) s) (fun j q => q = nI (a + 1 + j) ∧ ∀ y z, y < a + 1 + j → ¬ thr3 n B a y z) _ (n - 1 - a) (fun j q hj hI => ?_) 0 (nI (a + 1)) (by omega) ⟨rfl, fun y z h h2 => by have := h2.1; omega⟩
        obtain ⟨rfl, g2⟩ := hI
        by_cases hjn : j = n - 1 - a
        · subst hjn
          refine Or.inr ⟨.inl (nI (a + 1)), ?_, Or.inl ⟨rfl, fun y z h => g2 y z (by have := h.1; omega) h⟩⟩
          have a1 : nI n ≤ nI (a + 1 + (n - 1 - a)) := by rw [nI_leI (by omega) (by omega)]; omega
          show F_114_16 tT σ 0 (nI a) (nI (a + 1 + (n - 1 - a))) = _
          unfold F_114_16
          simp only [la_0, la_1, rm_0_1 hR, k1, k2, e1, a1, gd_tt, oA_arr, px_obj_s, Option.bind_some, Option.map_some, Option.bind_none, eq_self, true_or, or_true, px_av_0, px_av_1, px_av_2, px_av_10, px_av_11, bn, wi_1, wi_2, wl_1, wl_21, wl_22, wr_1, wr_21, wr_22, Sum.elim_inl, Sum.elim_inr, ↓reduceIte, Nat.reduceLT, Nat.reduceLeDiff, not_false_eq_true, not_true_eq_false, Nat.reduceEqDiff, Nat.reduceAdd, reduceCtorEq, and_true, true_and, and_false, false_and, false_or, or_false, nI_add]
        · generalize hb : a + 1 + j = b at g2
          have hbn : b < n := by omega
          have inner : ∃ s, f_114_30 tT σ 0 (nI a) (nI b) (nI (b + 1)) = some s ∧ ((s = .inl (nI (b + 1)) ∧ ∀ z, ¬ thr3 n B a b z) ∨ ∃ d, thr3 n B a b d ∧ s = .inr (.inr (nI 1, px_wi (px_wi (px_wi σ 0 32 (nI a)) 0 33 (nI b)) 0 34 (nI d)))) := by
            unfold f_114_30
            refine lp_rel (F := fun s : Int32 => F_114_30 tT σ 0 (nI a) (nI b) s) (fun i q => q = nI (b + 1 + i) ∧ ∀ z, z < b + 1 + i → ¬ thr3 n B a b z) _ (n - 1 - b) (fun i q hi hI => ?_) 0 (nI (b + 1)) (by omega) ⟨rfl, fun z h h2 => by have := h2.1; omega⟩
            obtain ⟨rfl, g3⟩ := hI
            have h85 : ∀ d, d ≤ n → f_114_85 tT σ 0 (nI a) (nI b) (nI d) = if d < n then some (.inr (.inr (nI 1, px_wi (px_wi (px_wi σ 0 32 (nI a)) 0 33 (nI b)) 0 34 (nI d)))) else some (.inl (nI (b + 1))) := by
              intro d hd
              by_cases q : d < n
              · have a1 : nI d < nI n := by rw [nI_ltI (by omega) (by omega)]; exact q
                rw [if_pos q]
                simp only [f_114_85, la_0, la_1, rm_0_1 hR, k1, k2, e1, a1, gd_tt, oA_arr, px_obj_s, Option.bind_some, Option.map_some, Option.bind_none, eq_self, true_or, or_true, px_av_0, px_av_1, px_av_2, px_av_10, px_av_11, bn, wi_1, wi_2, wl_1, wl_21, wl_22, wr_1, wr_21, wr_22, Sum.elim_inl, Sum.elim_inr, ↓reduceIte, Nat.reduceLT, Nat.reduceLeDiff, not_false_eq_true, not_true_eq_false, Nat.reduceEqDiff, Nat.reduceAdd, reduceCtorEq, and_true, true_and, and_false, false_and, false_or, or_false]
              · have a1 : ¬ nI d < nI n := by rw [nI_ltI (by omega) (by omega)]; exact q
                rw [if_neg q]
                simp only [f_114_85, la_0, la_1, rm_0_1 hR, k1, k2, e1, a1, gd_tt, oA_arr, px_obj_s, Option.bind_some, Option.map_some, Option.bind_none, eq_self, true_or, or_true, px_av_0, px_av_1, px_av_2, px_av_10, px_av_11, bn, wi_1, wi_2, wl_1, wl_21, wl_22, wr_1, wr_21, wr_22, Sum.elim_inl, Sum.elim_inr, ↓reduceIte, Nat.reduceLT, Nat.reduceLeDiff, not_false_eq_true, not_true_eq_false, Nat.reduceEqDiff, Nat.reduceAdd, reduceCtorEq, and_true, true_and, and_false, false_and, false_or, or_false, nI_add]
            by_cases hin : i = n - 1 - b
            · subst hin
              refine Or.inr ⟨.inl (nI (b + 1)), ?_, Or.inl ⟨rfl, fun z h => g3 z (by have := h.1; omega) h⟩⟩
              have a1 : nI n ≤ nI (b + 1 + (n - 1 - b)) := by rw [nI_leI (by omega) (by omega)]; omega
              have h85' := h85 (b + 1 + (n - 1 - b)) (by omega)
              rw [if_neg (by omega)] at h85'
              show F_114_30 tT σ 0 (nI a) (nI b) (nI (b + 1 + (n - 1 - b))) = _
              unfold F_114_30
              simp only [la_0, la_1, rm_0_1 hR, k1, k2, e1, a1, gd_tt, oA_arr, px_obj_s, Option.bind_some, Option.map_some, Option.bind_none, eq_self, true_or, or_true, px_av_0, px_av_1, px_av_2, px_av_10, px_av_11, bn, wi_1, wi_2, wl_1, wl_21, wl_22, wr_1, wr_21, wr_22, Sum.elim_inl, Sum.elim_inr, ↓reduceIte, Nat.reduceLT, Nat.reduceLeDiff, not_false_eq_true, not_true_eq_false, Nat.reduceEqDiff, Nat.reduceAdd, reduceCtorEq, and_true, true_and, and_false, false_and, false_or, or_false, h85']
            · generalize hc : b + 1 + i = c at g3
              have hcn : c < n := by omega
              have a1 : ¬ nI n ≤ nI c := by rw [nI_leI (by omega) (by omega)]; omega
              have h85' := h85 c (by omega)
              rw [if_pos hcn] at h85'
              have go : ¬ thr3 n B a b c → (∃ a', F_114_30 tT σ 0 (nI a) (nI b) (nI c) = some (.inl a') ∧ i < n - 1 - b ∧ a' = nI (b + 1 + (i + 1)) ∧ ∀ z, z < b + 1 + (i + 1) → ¬ thr3 n B a b z) ∨ False → (∃ a', F_114_30 tT σ 0 (nI a) (nI b) (nI c) = some (.inl a') ∧ i < n - 1 - b ∧ a' = nI (b + 1 + (i + 1)) ∧ ∀ z, z < b + 1 + (i + 1) → ¬ thr3 n B a b z) := fun _ h => h.resolve_right id
              have nx : ¬ thr3 n B a b c → F_114_30 tT σ 0 (nI a) (nI b) (nI c) = some (.inl (nI (c + 1))) → (∃ a', F_114_30 tT σ 0 (nI a) (nI b) (nI c) = some (.inl a') ∧ i < n - 1 - b ∧ a' = nI (b + 1 + (i + 1)) ∧ ∀ z, z < b + 1 + (i + 1) → ¬ thr3 n B a b z) := fun h1 h2 => ⟨nI (c + 1), h2, by omega, by rw [show b + 1 + (i + 1) = c + 1 by omega], fun z hz => by
                by_cases q : z = c
                · subst q; exact h1
                · exact g3 z (by omega)⟩
              cases q1 : (B a).testBit b with
              | false =>
                refine Or.inl (nx (fun h => by rw [h.2.1] at q1; cases q1) ?_)
                have i1 := ii a b hbn
                rw [q1, mb_f0] at i1
                unfold F_114_30 f_114_79
                simp only [la_0, la_1, rm_0_1 hR, k1, k2, e1, a1, gd_tt, oA_arr, px_obj_s, Option.bind_some, Option.map_some, Option.bind_none, eq_self, true_or, or_true, px_av_0, px_av_1, px_av_2, px_av_10, px_av_11, bn, wi_1, wi_2, wl_1, wl_21, wl_22, wr_1, wr_21, wr_22, Sum.elim_inl, Sum.elim_inr, ↓reduceIte, Nat.reduceLT, Nat.reduceLeDiff, not_false_eq_true, not_true_eq_false, Nat.reduceEqDiff, Nat.reduceAdd, reduceCtorEq, and_true, true_and, and_false, false_and, false_or, or_false, nr a ha', li, i1, nI_add]
              | true =>
                have i1 := ii a b hbn
                rw [q1, mb_t1] at i1
                cases q2 : (B a).testBit c with
                | false =>
                  refine Or.inl (nx (fun h => by rw [h.2.2.1] at q2; cases q2) ?_)
                  have i2 := ii a c hcn
                  rw [q2, mb_f0] at i2
                  unfold F_114_30 f_114_53 f_114_79
                  simp only [la_0, la_1, rm_0_1 hR, k1, k2, e1, a1, gd_tt, oA_arr, px_obj_s, Option.bind_some, Option.map_some, Option.bind_none, eq_self, true_or, or_true, px_av_0, px_av_1, px_av_2, px_av_10, px_av_11, bn, wi_1, wi_2, wl_1, wl_21, wl_22, wr_1, wr_21, wr_22, Sum.elim_inl, Sum.elim_inr, ↓reduceIte, Nat.reduceLT, Nat.reduceLeDiff, not_false_eq_true, not_true_eq_false, Nat.reduceEqDiff, Nat.reduceAdd, reduceCtorEq, and_true, true_and, and_false, false_and, false_or, or_false, nr a ha', li, i1, n10, i2, nI_add]
                | true =>
                  have i2 := ii a c hcn
                  rw [q2, mb_t1] at i2
                  cases q3 : (B b).testBit c with
                  | false =>
                    refine Or.inl (nx (fun h => by rw [h.2.2.2] at q3; cases q3) ?_)
                    have i3 := ii b c hcn
                    rw [q3, mb_f0] at i3
                    unfold F_114_30 f_114_53 f_114_66 f_114_79
                    simp only [la_0, la_1, rm_0_1 hR, k1, k2, e1, a1, gd_tt, oA_arr, px_obj_s, Option.bind_some, Option.map_some, Option.bind_none, eq_self, true_or, or_true, px_av_0, px_av_1, px_av_2, px_av_10, px_av_11, bn, wi_1, wi_2, wl_1, wl_21, wl_22, wr_1, wr_21, wr_22, Sum.elim_inl, Sum.elim_inr, ↓reduceIte, Nat.reduceLT, Nat.reduceLeDiff, not_false_eq_true, not_true_eq_false, Nat.reduceEqDiff, Nat.reduceAdd, reduceCtorEq, and_true, true_and, and_false, false_and, false_or, or_false, nr a ha', nr b hbn, li, i1, n10, i2, i3, nI_add]
                  | true =>
                    have i3 := ii b c hcn
                    rw [q3, mb_t1] at i3
                    refine Or.inr ⟨.inr (.inr (nI 1, px_wi (px_wi (px_wi σ 0 32 (nI a)) 0 33 (nI b)) 0 34 (nI c))), ?_, Or.inr ⟨c, ⟨⟨by omega, by omega, hcn⟩, q1, q2, q3⟩, rfl⟩⟩
                    show F_114_30 tT σ 0 (nI a) (nI b) (nI c) = _
                    unfold F_114_30 f_114_53 f_114_66
                    simp only [la_0, la_1, rm_0_1 hR, k1, k2, e1, a1, gd_tt, oA_arr, px_obj_s, Option.bind_some, Option.map_some, Option.bind_none, eq_self, true_or, or_true, px_av_0, px_av_1, px_av_2, px_av_10, px_av_11, bn, wi_1, wi_2, wl_1, wl_21, wl_22, wr_1, wr_21, wr_22, Sum.elim_inl, Sum.elim_inr, ↓reduceIte, Nat.reduceLT, Nat.reduceLeDiff, not_false_eq_true, not_true_eq_false, Nat.reduceEqDiff, Nat.reduceAdd, reduceCtorEq, and_true, true_and, and_false, false_and, false_or, or_false, nr a ha', nr b hbn, li, i1, n10, i2, i3, h85']
          obtain ⟨s, u1, u2⟩ := inner
          have a1 : ¬ nI n ≤ nI b := by rw [nI_leI (by omega) (by omega)]; omega
          have hF : F_114_16 tT σ 0 (nI a) (nI b) = some s := by
            unfold F_114_16
            simp only [la_0, la_1, rm_0_1 hR, k1, k2, e1, a1, gd_tt, oA_arr, px_obj_s, Option.bind_some, Option.map_some, Option.bind_none, eq_self, true_or, or_true, px_av_0, px_av_1, px_av_2, px_av_10, px_av_11, bn, wi_1, wi_2, wl_1, wl_21, wl_22, wr_1, wr_21, wr_22, Sum.elim_inl, Sum.elim_inr, ↓reduceIte, Nat.reduceLT, Nat.reduceLeDiff, not_false_eq_true, not_true_eq_false, Nat.reduceEqDiff, Nat.reduceAdd, reduceCtorEq, and_true, true_and, and_false, false_and, false_or, or_false, nI_add, u1]
          rcases u2 with ⟨rfl, u3⟩ | ⟨d, u3, rfl⟩
          · refine Or.inl ⟨nI (b + 1), hF, by omega, by rw [show a + 1 + (j + 1) = b + 1 by omega], fun y z hy => ?_⟩
            by_cases q : y = b
            · subst q; exact u3 z
            · exact g2 y z (by omega)
          · exact Or.inr ⟨_, hF, Or.inr ⟨b, d, u3, rfl⟩⟩
      obtain ⟨s, u1, u2⟩ := mid
      have a1 : ¬ nI n ≤ nI a := by rw [nI_leI (by omega) (by omega)]; omega
      have hF : F_114_2 tT σ 0 (nI a) = some s := by
        unfold F_114_2
        simp only [la_0, la_1, rm_0_1 hR, k1, k2, e1, a1, gd_tt, oA_arr, px_obj_s, Option.bind_some, Option.map_some, Option.bind_none, eq_self, true_or, or_true, px_av_0, px_av_1, px_av_2, px_av_10, px_av_11, bn, wi_1, wi_2, wl_1, wl_21, wl_22, wr_1, wr_21, wr_22, Sum.elim_inl, Sum.elim_inr, ↓reduceIte, Nat.reduceLT, Nat.reduceLeDiff, not_false_eq_true, not_true_eq_false, Nat.reduceEqDiff, Nat.reduceAdd, reduceCtorEq, and_true, true_and, and_false, false_and, false_or, or_false, nI_add, u1]
      rcases u2 with ⟨rfl, u3⟩ | ⟨c, d, u3, rfl⟩
      · refine Or.inl ⟨nI (a + 1), hF, by omega, rfl, fun x y z hx => ?_⟩
        by_cases q : x = a
        · subst q; exact u3 y z
        · exact g1 x y z (by omega)
      · exact Or.inr ⟨_, hF, Or.inr ⟨a, c, d, u3, rfl⟩⟩
  obtain ⟨b, q1, q2⟩ := key
  rcases q2 with ⟨rfl, q2⟩ | ⟨a, c, d, q2, rfl⟩
  · exact Or.inl ⟨q1, q2⟩
  · exact Or.inr ⟨a, c, d, q2, q1⟩
theorem f_116_S2 (d : Nat) : f_116 tT (d + 1) = F_116 tT (f_115 tT d) (f_116 tT d) := rfl
theorem f_115_S2 (d : Nat) : f_115 tT (d + 1) = F_115 tT (f_115 tT d) (f_116 tT d) := rfl
theorem e_cure : ∀ k d, 2 * k + 1 ≤ d → ∀ (σ : px_M) (B : Nat → Nat) (v : Int32), mo σ n B → v.toInt = f → k ≤ 6 → ∃ υ, f_116 tT d σ 0 (nI k) v = some (mb (cub n B k f), υ) ∧ fk CK σ υ := by
  intro k
  induction k with
  | zero =>
    intro d hd σ B v hm hv _
    obtain ⟨d, rfl⟩ : ∃ d', d = d' + 1 := ⟨d - 1, by omega⟩
    have hw := hm.2.1
    rw [f_116_S2]
    rcases e_laysThree hm with ⟨q1, q2⟩ | ⟨a, b, c, q1, q2⟩
    · refine ⟨σ, ?_, fk_rf _ _⟩
      rw [cub_t.mpr ⟨0, cw_0 hw 0 q2⟩, mb_t1]
      unfold F_116
      simp only [la_0, gd_tt, oA_arr, px_obj_s, Option.bind_some, Option.map_some, Option.bind_none, eq_self, true_or, or_true, px_av_0, px_av_1, px_av_2, px_av_10, px_av_11, bn, wi_1, wi_2, wl_1, wl_21, wl_22, wr_1, wr_21, wr_22, Sum.elim_inl, Sum.elim_inr, ↓reduceIte, Nat.reduceLT, Nat.reduceLeDiff, not_false_eq_true, not_true_eq_false, Nat.reduceEqDiff, Nat.reduceAdd, reduceCtorEq, and_true, true_and, and_false, false_and, false_or, or_false, q1]
    · refine ⟨px_wi (px_wi (px_wi σ 0 32 (nI a)) 0 33 (nI b)) 0 34 (nI c), ?_, fk_of (S := CK) (fr_wi (fr_wi (fr_wi (fr_rf _ _) _ rfl) _ rfl) _ rfl) (fun _ => rfl)⟩
      rw [cub_f (fun ⟨w, h⟩ => cw_k0 hw h a b c q1.1.1 q1.1.2.1 q1.1.2.2 q1.2), mb_f0]
      unfold F_116
      simp only [la_0, gd_tt, oA_arr, px_obj_s, Option.bind_some, Option.map_some, Option.bind_none, eq_self, true_or, or_true, px_av_0, px_av_1, px_av_2, px_av_10, px_av_11, bn, wi_1, wi_2, wl_1, wl_21, wl_22, wr_1, wr_21, wr_22, Sum.elim_inl, Sum.elim_inr, ↓reduceIte, Nat.reduceLT, Nat.reduceLeDiff, not_false_eq_true, not_true_eq_false, Nat.reduceEqDiff, Nat.reduceAdd, reduceCtorEq, and_true, true_and, and_false, false_and, false_or, or_false, q2, n10]
  | succ k ih =>
    intro d hd σ B v hm hv hk6
    obtain ⟨d, rfl⟩ : ∃ d', d = d' + 2 := ⟨d - 2, by omega⟩
    have hw := hm.2.1
    have hn := hw.1
    rw [show d + 2 = (d + 1) + 1 from rfl, f_116_S2]
    rcases e_laysThree hm with ⟨q1, q2⟩ | ⟨a, b, c, q1, q2⟩
    · refine ⟨σ, ?_, fk_rf _ _⟩
      rw [cub_t.mpr ⟨0, cw_0 hw _ q2⟩, mb_t1]
      unfold F_116
      simp only [la_0, gd_tt, oA_arr, px_obj_s, Option.bind_some, Option.map_some, Option.bind_none, eq_self, true_or, or_true, px_av_0, px_av_1, px_av_2, px_av_10, px_av_11, bn, wi_1, wi_2, wl_1, wl_21, wl_22, wr_1, wr_21, wr_22, Sum.elim_inl, Sum.elim_inr, ↓reduceIte, Nat.reduceLT, Nat.reduceLeDiff, not_false_eq_true, not_true_eq_false, Nat.reduceEqDiff, Nat.reduceAdd, reduceCtorEq, and_true, true_and, and_false, false_and, false_or, or_false, q1]
    · obtain ⟨⟨t1, t2, t3⟩, b1, b2, b3⟩ := id q1
      obtain ⟨ρ, hρ⟩ : ∃ ρ, px_wi (px_wi (px_wi σ 0 32 (nI a)) 0 33 (nI b)) 0 34 (nI c) = ρ := ⟨_, rfl⟩
      have w1 : fk CK σ ρ := by rw [← hρ]; exact fk_of (fr_wi (fr_wi (fr_wi (fr_rf _ _) _ rfl) _ rfl) _ rfl) (fun _ => rfl)
      have v32 : ρ.1 0 32 = nI a := by
        rw [← hρ, wi_1, up_s, if_neg (by decide), wi_1, up_s, if_neg (by decide)]; exact wi_s _ _ _ _
      have v33 : ρ.1 0 33 = nI b := by
        rw [← hρ, wi_1, up_s, if_neg (by decide)]; exact wi_s _ _ _ _
      have v34 : ρ.1 0 34 = nI c := by rw [← hρ]; exact wi_s _ _ _ _
      rw [hρ] at q2
      have hmρ := mo_fk w1 hm
      -- one door
      have by1 : ∀ (ω : px_M) (x y : Nat), mo ω n B → x < y → y < n → (B x).testBit y = true → ∃ υ, f_115 tT (d + 1) ω 0 (nI x) (nI y) (nI (k + 1)) v = some (mb (decide (f < (100 * x + y : Nat)) && cub n (wl B x y) k f), υ) ∧ fk CK ω υ := by
        intro ω x y hmω hxy hy hbit
        rw [f_115_S2]
        have hlt : (v < nI (100 * x + y)) ↔ f < (100 * x + y : Nat) := by rw [fa_lt, hv, nI_toInt (by omega)]
        by_cases hf : f < (100 * x + y : Nat)
        · have hlt' := hlt.mpr hf
          obtain ⟨ρ1, y1, y2, y3⟩ := e_walls hmω (show x < n by omega) hy (show x ≠ y by omega)
          obtain ⟨ρ2, z1, z2⟩ := ih d (by omega) ρ1 (wl B x y) v y3 hv (by omega)
          have m2 := mo_fk z2 y3
          obtain ⟨ρ3, x1, x2, x3⟩ := e_joins m2 (show x < n by omega) hy (show x ≠ y by omega)
          rw [jn_wl hw (by omega) hbit] at x3
          have sub1 : nI (k + 1) - nI 1 = nI k := by rw [ni_subL (by omega)]; rfl
          have g01 : mb (cub n (wl B x y) k f) = nI 0 ∨ mb (cub n (wl B x y) k f) = nI 1 := by
            cases cub n (wl B x y) k f
            · exact Or.inl rfl
            · exact Or.inr rfl
          refine ⟨ρ3, ?_, fk_mo (fr_tr (fr_mono y2 (fun l j q => by simp only [Bool.or_eq_false_iff] at q; exact q.2)) (fr_tr z2.1 (fr_mono x2 (fun l j q => by simp only [Bool.or_eq_false_iff] at q; exact q.2)))) (fun _ => rfl) hmω x3⟩
          rw [decide_eq_true hf, Bool.true_and]
          unfold F_115 f_115_30
          simp only [pk_mul, nI_add, hlt', la_0, gd_tt, oA_arr, px_obj_s, Option.bind_some, Option.map_some, Option.bind_none, eq_self, true_or, or_true, px_av_0, px_av_1, px_av_2, px_av_10, px_av_11, bn, wi_1, wi_2, wl_1, wl_21, wl_22, wr_1, wr_21, wr_22, Sum.elim_inl, Sum.elim_inr, ↓reduceIte, Nat.reduceLT, Nat.reduceLeDiff, not_false_eq_true, not_true_eq_false, Nat.reduceEqDiff, Nat.reduceAdd, reduceCtorEq, and_true, true_and, and_false, false_and, false_or, or_false, y1, sub1, z1, rm_0_1 m2.1, x1, g01]
        · have hlt' : ¬ (v < nI (100 * x + y)) := fun q => hf (hlt.mp q)
          refine ⟨ω, ?_, fk_rf _ _⟩
          rw [decide_eq_false hf, Bool.false_and, mb_f0]
          unfold F_115
          simp only [pk_mul, nI_add, hlt', gd_tt, oA_arr, px_obj_s, Option.bind_some, Option.map_some, Option.bind_none, eq_self, true_or, or_true, px_av_0, px_av_1, px_av_2, px_av_10, px_av_11, bn, wi_1, wi_2, wl_1, wl_21, wl_22, wr_1, wr_21, wr_22, Sum.elim_inl, Sum.elim_inr, ↓reduceIte, Nat.reduceLT, Nat.reduceLeDiff, not_false_eq_true, not_true_eq_false, Nat.reduceEqDiff, Nat.reduceAdd, reduceCtorEq, and_true, true_and, and_false, false_and, false_or, or_false]
      have hcu := cu_three (f := f) (k := k) hw t1 t2 t3 b1 b2 b3
      have zk : ¬ nI (k + 1) = nI 0 := by rw [nI_eq (by omega) (by omega)]; omega
      have pt : ∀ {x y : Nat}, (decide (f < (100 * x + y : Nat)) && cub n (wl B x y) k f) = true ↔ (f < (100 * x + y : Nat) ∧ cu n (wl B x y) k f) := by
        intro x y
        rw [Bool.and_eq_true, decide_eq_true_eq, cub_t]
      obtain ⟨ρ1, x1, x2⟩ := by1 ρ a b hmρ t1 (by omega) b1
      have m1 := mo_fk x2 hmρ
      cases r1 : (decide (f < (100 * a + b : Nat)) && cub n (wl B a b) k f) with
      | true =>
        rw [r1, mb_t1] at x1
        refine ⟨ρ1, ?_, fk_tr w1 x2⟩
        rw [cub_t.mpr (hcu.mpr (Or.inl (pt.mp r1))), mb_t1]
        unfold F_116 f_116_69
        simp only [la_0, gd_tt, oA_arr, px_obj_s, Option.bind_some, Option.map_some, Option.bind_none, eq_self, true_or, or_true, px_av_0, px_av_1, px_av_2, px_av_10, px_av_11, bn, wi_1, wi_2, wl_1, wl_21, wl_22, wr_1, wr_21, wr_22, Sum.elim_inl, Sum.elim_inr, ↓reduceIte, Nat.reduceLT, Nat.reduceLeDiff, not_false_eq_true, not_true_eq_false, Nat.reduceEqDiff, Nat.reduceAdd, reduceCtorEq, and_true, true_and, and_false, false_and, false_or, or_false, q2, n10, zk, v32, v33, x1]
      | false =>
        rw [r1, mb_f0] at x1
        obtain ⟨ρ2, y1, y2⟩ := by1 ρ1 a c m1 (by omega) t3 b2
        have m2 := mo_fk y2 m1
        cases r2 : (decide (f < (100 * a + c : Nat)) && cub n (wl B a c) k f) with
        | true =>
          rw [r2, mb_t1] at y1
          refine ⟨ρ2, ?_, fk_tr w1 (fk_tr x2 y2)⟩
          rw [cub_t.mpr (hcu.mpr (Or.inr (Or.inl (pt.mp r2)))), mb_t1]
          unfold F_116 f_116_44 f_116_69
          simp only [la_0, gd_tt, oA_arr, px_obj_s, Option.bind_some, Option.map_some, Option.bind_none, eq_self, true_or, or_true, px_av_0, px_av_1, px_av_2, px_av_10, px_av_11, bn, wi_1, wi_2, wl_1, wl_21, wl_22, wr_1, wr_21, wr_22, Sum.elim_inl, Sum.elim_inr, ↓reduceIte, Nat.reduceLT, Nat.reduceLeDiff, not_false_eq_true, not_true_eq_false, Nat.reduceEqDiff, Nat.reduceAdd, reduceCtorEq, and_true, true_and, and_false, false_and, false_or, or_false, q2, n10, zk, v32, v33, v34, x1, y1]
        | false =>
          rw [r2, mb_f0] at y1
          obtain ⟨ρ3, z1, z2⟩ := by1 ρ2 b c m2 t2 t3 b3
          cases r3 : (decide (f < (100 * b + c : Nat)) && cub n (wl B b c) k f) with
          | true =>
            rw [r3, mb_t1] at z1
            refine ⟨ρ3, ?_, fk_tr w1 (fk_tr x2 (fk_tr y2 z2))⟩
            rw [cub_t.mpr (hcu.mpr (Or.inr (Or.inr (pt.mp r3)))), mb_t1]
            unfold F_116 f_116_44 f_116_69
            simp only [la_0, gd_tt, oA_arr, px_obj_s, Option.bind_some, Option.map_some, Option.bind_none, eq_self, true_or, or_true, px_av_0, px_av_1, px_av_2, px_av_10, px_av_11, bn, wi_1, wi_2, wl_1, wl_21, wl_22, wr_1, wr_21, wr_22, Sum.elim_inl, Sum.elim_inr, ↓reduceIte, Nat.reduceLT, Nat.reduceLeDiff, not_false_eq_true, not_true_eq_false, Nat.reduceEqDiff, Nat.reduceAdd, reduceCtorEq, and_true, true_and, and_false, false_and, false_or, or_false, q2, n10, zk, v32, v33, v34, x1, y1, z1]
          | false =>
            rw [r3, mb_f0] at z1
            refine ⟨ρ3, ?_, fk_tr w1 (fk_tr x2 (fk_tr y2 z2))⟩
            rw [cub_f (fun q => by
              rcases hcu.mp q with q | q | q
              · rw [pt.mpr q] at r1; cases r1
              · rw [pt.mpr q] at r2; cases r2
              · rw [pt.mpr q] at r3; cases r3), mb_f0]
            unfold F_116 f_116_44
            simp only [la_0, gd_tt, oA_arr, px_obj_s, Option.bind_some, Option.map_some, Option.bind_none, eq_self, true_or, or_true, px_av_0, px_av_1, px_av_2, px_av_10, px_av_11, bn, wi_1, wi_2, wl_1, wl_21, wl_22, wr_1, wr_21, wr_22, Sum.elim_inl, Sum.elim_inr, ↓reduceIte, Nat.reduceLT, Nat.reduceLeDiff, not_false_eq_true, not_true_eq_false, Nat.reduceEqDiff, Nat.reduceAdd, reduceCtorEq, and_true, true_and, and_false, false_and, false_or, or_false, q2, n10, zk, v32, v33, v34, x1, y1, z1]
end
