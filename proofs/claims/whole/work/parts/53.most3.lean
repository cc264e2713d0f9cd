/-! the most guests, as the class finds them -/
section
variable {σ : px_M} {t n : Nat} {B : Nat → Nat}
theorem mxg_le {s a : Nat} (h : mxg B s a) : a ≤ 11 := by
  obtain ⟨⟨I, -, -, -, i4⟩, -⟩ := h
  have := bc_le 11 I
  omega
theorem c_3009 (hc : ct σ t n B) : ∀ m s d dep, bc 11 s ≤ m → m < d → dep + m ≤ 11 → s < 2 ^ n → ∃ a, f_3009 tT d σ t (nI s) (nI dep) = some (nI a) ∧ mxg B s a := by
  obtain ⟨l1, l2, hr, hw, h1, hnb⟩ := id hc
  have hn := hw.1
  have hp := pw_le hn
  have hB := wf_sy hw
  intro m
  induction m with
  | zero =>
    intro s d dep hm hd _ hs
    obtain ⟨d, rfl⟩ : ∃ d', d = d' + 1 := ⟨d - 1, by omega⟩
    have h0 : s = 0 := bc_z (by omega) (by omega)
    subst h0
    refine ⟨0, ?_, mxg_0⟩
    rw [f_3009_S]
    unfold F_3009
    rw [if_pos rfl]
  | succ m ih =>
    intro s d dep hm hd hdep hs
    obtain ⟨d, rfl⟩ : ∃ d', d = d' + 1 := ⟨d - 1, by omega⟩
    by_cases hz : s = 0
    · subst hz
      refine ⟨0, ?_, mxg_0⟩
      rw [f_3009_S]
      unfold F_3009
      rw [if_pos rfl]
    have hs2 : s < 2048 := by omega
    obtain ⟨E, hE⟩ : ∃ E : Nat → Nat, E = fun x => if s.testBit x = true then bc 11 (B x &&& s) else 0 := ⟨_, rfl⟩
    have hEle : ∀ x, E x ≤ 11 := fun x => by
      rw [hE]
      dsimp only
      split
      · exact bc_le 11 _
      · omega
    have hsm : ∀ j, j ≤ 11 → sm E j ≤ 121 := fun j hj => by
      have := sm_le hEle j
      omega
    have hdE : dE B s = sm E n := by
      unfold dE
      rw [← hE]
      refine sm_cut hn (fun i hi => ?_)
      rw [hE]
      dsimp only
      rw [if_neg]
      intro q
      have := tb_lt hs q
      omega
    have loop : ∃ b, f_3009_23 tT (f_3009 tT d) σ t (nI s) (nI dep) (nI 0) (-1) (nI 0) (nI 0) = some b ∧ ∃ a, b = nI a ∧ mxg B s a := by
      unfold f_3009_23
      refine lp_for (F := fun q : Int32 × Int32 × Int32 × Int32 => F_3009_23 tT (f_3009 tT d) σ t (nI s) (nI dep) q.1 q.2.1 q.2.2.1 q.2.2.2) (fun j q => (q = (nI 0, -1, nI (sm E j), nI j) ∧ ∀ x, x < j → s.testBit x = false) ∨ ∃ b, q = (nI b, nI (bc 11 (B b &&& s)), nI (sm E j), nI j) ∧ b < n ∧ s.testBit b = true ∧ ∀ x, x < j → s.testBit x = true → bc 11 (B x &&& s) ≤ bc 11 (B b &&& s)) (fun b => ∃ a, b = nI a ∧ mxg B s a) n (fun j q hj hI => ?_) (fun q hI => ?_) 0 (nI 0, -1, nI 0, nI 0) (by omega) (Or.inl ⟨rfl, fun x hx => absurd hx (by omega)⟩)
      · have hjn : ¬ n ≤ j := by omega
        have hA : B j &&& s < 2048 := and_lt (hB.1 j)
        have hbc := bc_le 11 (B j &&& s)
        have k1 := e_bitCount σ hA
        have hj11 : j < 11 := by omega
        have hb2 := hnb j hj11
        cases hb : s.testBit j with
        | false =>
          have hsE : sm E (j + 1) = sm E j := by
            show sm E j + E j = _
            rw [hE]
            simp [hb]
          rcases hI with ⟨rfl, h2⟩ | ⟨b, rfl, b1, b2, b3⟩
          · refine ⟨(nI 0, -1, nI (sm E (j + 1)), nI (j + 1)), ?_, Or.inl ⟨rfl, fun x hx => ?_⟩⟩
            · rw [hsE]
              generalize sm E j = z
              simp (disch := omega) only [F_3009_23, l1, h1, gd_tt, oA_arr, px_obj_s, Option.bind_some, Option.map_some, Option.bind_none, eq_self, true_or, or_true, px_av_0, px_av_1, px_av_2, px_av_10, px_av_11, bn, wi_1, wi_2, wl_1, wl_21, wl_22, wr_1, wr_21, wr_22, Sum.elim_inl, Sum.elim_inr, ↓reduceIte, Nat.reduceLT, Nat.reduceLeDiff, not_false_eq_true, not_true_eq_false, Nat.reduceEqDiff, Nat.reduceAdd, reduceCtorEq, and_true, true_and, and_false, false_and, false_or, or_false, true_and, and_true, ni_divL, ni_subL, nI_add, pk_mul, nI_leI, nI_ltI, nI_eq, vp_in_eq, nI_clamp, ↓ni_tst, ni_tst2, fa_and, fa_or, ni_bit1, ni_1s, nI_l, mb_eq0, mb_ne0, mb_eq1, gd_tt, gd_t, bft, hb, hjn]
            · by_cases hxj : x = j
              · subst hxj; exact hb
              · exact h2 x (by omega)
          · refine ⟨(nI b, nI (bc 11 (B b &&& s)), nI (sm E (j + 1)), nI (j + 1)), ?_, Or.inr ⟨b, rfl, b1, b2, fun x hx hsx => ?_⟩⟩
            · rw [hsE]
              generalize sm E j = z
              generalize bc 11 (B b &&& s) = y
              simp (disch := omega) only [F_3009_23, l1, h1, gd_tt, oA_arr, px_obj_s, Option.bind_some, Option.map_some, Option.bind_none, eq_self, true_or, or_true, px_av_0, px_av_1, px_av_2, px_av_10, px_av_11, bn, wi_1, wi_2, wl_1, wl_21, wl_22, wr_1, wr_21, wr_22, Sum.elim_inl, Sum.elim_inr, ↓reduceIte, Nat.reduceLT, Nat.reduceLeDiff, not_false_eq_true, not_true_eq_false, Nat.reduceEqDiff, Nat.reduceAdd, reduceCtorEq, and_true, true_and, and_false, false_and, false_or, or_false, true_and, and_true, ni_divL, ni_subL, nI_add, pk_mul, nI_leI, nI_ltI, nI_eq, vp_in_eq, nI_clamp, ↓ni_tst, ni_tst2, fa_and, fa_or, ni_bit1, ni_1s, nI_l, mb_eq0, mb_ne0, mb_eq1, gd_tt, gd_t, bft, hb, hjn]
            · by_cases hxj : x = j
              · subst hxj; rw [hb] at hsx; cases hsx
              · exact b3 x (by omega) hsx
        | true =>
          have hsE : sm E (j + 1) = sm E j + bc 11 (B j &&& s) := by
            show sm E j + E j = _
            rw [hE]
            simp [hb]
          have hF : ∀ x3 x4 z, F_3009_23 tT (f_3009 tT d) σ t (nI s) (nI dep) x3 x4 (nI z) (nI j) = if nI (bc 11 (B j &&& s)) ≤ x4 then some (.inl (x3, x4, nI (z + bc 11 (B j &&& s)), nI (j + 1))) else some (.inl (nI j, nI (bc 11 (B j &&& s)), nI (z + bc 11 (B j &&& s)), nI (j + 1))) := fun x3 x4 z => by
            generalize hD : bc 11 (B j &&& s) = D at k1
            simp (disch := omega) only [F_3009_23, f_3009_62, l1, l2, hr, h1, k1, gd_tt, oA_arr, px_obj_s, Option.bind_some, Option.map_some, Option.bind_none, eq_self, true_or, or_true, px_av_0, px_av_1, px_av_2, px_av_10, px_av_11, bn, wi_1, wi_2, wl_1, wl_21, wl_22, wr_1, wr_21, wr_22, Sum.elim_inl, Sum.elim_inr, ↓reduceIte, Nat.reduceLT, Nat.reduceLeDiff, not_false_eq_true, not_true_eq_false, Nat.reduceEqDiff, Nat.reduceAdd, reduceCtorEq, and_true, true_and, and_false, false_and, false_or, or_false, true_and, and_true, ni_divL, ni_subL, nI_add, pk_mul, nI_leI, nI_ltI, nI_eq, vp_in_eq, nI_clamp, ↓ni_tst, ni_tst2, fa_and, fa_or, ni_bit1, ni_1s, nI_l, mb_eq0, mb_ne0, mb_eq1, gd_tt, gd_t, bft, hb, hjn, hb2, hj11]
          rcases hI with ⟨rfl, h2⟩ | ⟨b, rfl, b1, b2, b3⟩
          · have hno : ¬ nI (bc 11 (B j &&& s)) ≤ (-1 : Int32) := by
              rw [fa_le, nI_toInt (by omega)]
              have : (-1 : Int32).toInt = -1 := by decide
              omega
            refine ⟨_, by dsimp only; rw [hF, if_neg hno], Or.inr ⟨j, by rw [hsE], hj, hb, fun x hx hsx => ?_⟩⟩
            by_cases hxj : x = j
            · rw [hxj]; exact Nat.le_refl _
            · rw [h2 x (by omega)] at hsx; cases hsx
          · have hbb := bc_le 11 (B b &&& s)
            by_cases hle : bc 11 (B j &&& s) ≤ bc 11 (B b &&& s)
            · refine ⟨_, by dsimp only; rw [hF, if_pos (by rw [nI_leI (by omega) (by omega)]; exact hle)], Or.inr ⟨b, by rw [hsE], b1, b2, fun x hx hsx => ?_⟩⟩
              by_cases hxj : x = j
              · rw [hxj]; exact hle
              · exact b3 x (by omega) hsx
            · refine ⟨_, by dsimp only; rw [hF, if_neg (by rw [nI_leI (by omega) (by omega)]; exact hle)], Or.inr ⟨j, by rw [hsE], hj, hb, fun x hx hsx => ?_⟩⟩
              by_cases hxj : x = j
              · rw [hxj]; exact Nat.le_refl _
              · have := b3 x (by omega) hsx
                omega
      · rcases hI with ⟨rfl, h2⟩ | ⟨b, rfl, b1, b2, b3⟩
        · exfalso
          apply hz
          apply tb_eq
          intro i
          rw [Nat.zero_testBit]
          constructor
          · intro q
            rw [h2 i (tb_lt hs q)] at q
            cases q
          · intro q; cases q
        · have hbb := bc_le 11 (B b &&& s)
          have hnd := bc_nd hs2 (show b < 11 by omega) b2
          have hnn : nI n ≤ nI n := by rw [nI_leI (by omega) (by omega)]; omega
          have hs1 : nd s (2 ^ b) ≤ s := Nat.and_le_left
          have hs3 : nd (nd s (2 ^ b)) (B b) ≤ nd s (2 ^ b) := Nat.and_le_left
          have hb11 : b < 11 := by omega
          by_cases hD : 1 < bc 11 (B b &&& s)
          · have hbc2 : bc 11 (nd (nd s (2 ^ b)) (B b)) ≤ bc 11 (nd s (2 ^ b)) := bc_mono (fun i hi => by
              rw [nd_tb (by omega), Bool.and_eq_true] at hi
              exact hi.1) 11
            obtain ⟨a1, q1, q2⟩ := ih (nd s (2 ^ b)) d (dep + 1) (by omega) (by omega) (by omega) (by omega)
            obtain ⟨a2, q3, q4⟩ := ih (nd (nd s (2 ^ b)) (B b)) d (dep + 1) (by omega) (by omega) (by omega) (by omega)
            have := mxg_v hB hs2 hb11 b2 q2 q4
            have la1 := mxg_le q2
            have la2 := mxg_le q4
            have hlt : nI 1 < nI (bc 11 (B b &&& s)) := by rw [nI_ltI (by decide) (by omega)]; exact hD
            have q5 : nI 1 <<< (nI b &&& 31) = nI (2 ^ b) := ni_1s (by omega)
            have c1 : vp_in (nI b) 11 := (vp_in_eq (by omega)).mpr hb11
            have c2 : (nI b).toNatClampNeg = b := nI_clamp (by omega)
            refine ⟨nI (if 1 + a2 < a1 then a1 else 1 + a2), ?_, _, rfl, this⟩
            dsimp only
            unfold F_3009_23 f_3009_107 f_3009_140
            simp only [l1, l2, hr, h1, gd_tt, oA_arr, px_obj_s, Option.bind_some, Option.map_some, Option.bind_none, eq_self, true_or, or_true, px_av_0, px_av_1, px_av_2, px_av_10, px_av_11, bn, wi_1, wi_2, wl_1, wl_21, wl_22, wr_1, wr_21, wr_22, Sum.elim_inl, Sum.elim_inr, ↓reduceIte, Nat.reduceLT, Nat.reduceLeDiff, not_false_eq_true, not_true_eq_false, Nat.reduceEqDiff, Nat.reduceAdd, reduceCtorEq, and_true, true_and, and_false, false_and, false_or, or_false, hnn, hlt, q5, ni_nd hs2, ni_nd (nd_lt hs2), nI_add, q1, c1, c2, hnb b hb11, q3]
            by_cases hcm : 1 + a2 < a1
            · rw [if_pos hcm, if_pos (by rw [nI_ltI (by omega) (by omega)]; exact hcm)]
            · rw [if_neg hcm, if_neg (by rw [nI_ltI (by omega) (by omega)]; exact hcm)]
          · obtain ⟨r1, r2⟩ := mxg_low hB 11 s (bc_le 11 s) hs2 (fun x hx hsx => by
              have := b3 x (tb_lt hs hsx) hsx
              omega)
            have hlt : ¬ nI 1 < nI (bc 11 (B b &&& s)) := by rw [nI_ltI (by decide) (by omega)]; exact hD
            have hz2 : ¬ nI 2 = nI 0 := by decide
            rw [hdE] at r1 r2
            have hbs := bc_le 11 s
            have d1 : nI (sm E n) / nI 2 = nI (sm E n / 2) := ni_divL (by omega) (by decide) (by decide)
            have d2 : nI (bc 11 s) - nI (sm E n / 2) = nI (bc 11 s - sm E n / 2) := ni_subL (by omega)
            refine ⟨nI (bc 11 s - sm E n / 2), ?_, _, rfl, r1⟩
            dsimp only
            unfold F_3009_23
            simp only [l1, h1, gd_tt, oA_arr, px_obj_s, Option.bind_some, Option.map_some, Option.bind_none, eq_self, true_or, or_true, px_av_0, px_av_1, px_av_2, px_av_10, px_av_11, bn, wi_1, wi_2, wl_1, wl_21, wl_22, wr_1, wr_21, wr_22, Sum.elim_inl, Sum.elim_inr, ↓reduceIte, Nat.reduceLT, Nat.reduceLeDiff, not_false_eq_true, not_true_eq_false, Nat.reduceEqDiff, Nat.reduceAdd, reduceCtorEq, and_true, true_and, and_false, false_and, false_or, or_false, hnn, hlt, e_bitCount σ hs2, hz2, d1, d2]
    obtain ⟨b, q1, a, rfl, q2⟩ := loop
    refine ⟨a, ?_, q2⟩
    rw [f_3009_S]
    unfold F_3009
    rw [if_neg (by rw [nI_eq (by omega) (by decide)]; exact hz), if_pos (by rw [nI_leI (by omega) (by decide)]; omega), q1]
end
