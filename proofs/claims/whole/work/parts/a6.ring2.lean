/-! two readers: rings -/
section
variable {σ0 τ0 σ τ : px_M} {b pl bh κ v : Nat → Nat} {e K k n nr m ln : Nat} {B S C : Nat → Nat} {ts us : List Bool}
theorem c_selfl {t : Nat} (hc : ct σ t n B) {a : Nat} (ha : a < n) : f_11009 tT σ t (nI a) (nI a) = some σ := by
  have hn := hc.2.2.2.1.1
  have hpr := c_isPair hc (a := a) (b := a) (by omega) (by omega)
  rw [decide_eq_false (fun q => q.2.2 rfl), mb_f0] at hpr
  obtain ⟨l1, -⟩ := hc
  unfold f_11009
  simp only [l1, hpr, gd_tt, oA_arr, px_obj_s, Option.bind_some, Option.map_some, Option.bind_none, eq_self, true_or, or_true, px_av_0, px_av_1, px_av_2, px_av_10, px_av_11, bn, wi_1, wi_2, wl_1, wl_21, wl_22, wr_1, wr_21, wr_22, Sum.elim_inl, Sum.elim_inr, ↓reduceIte, Nat.reduceLT, Nat.reduceLeDiff, not_false_eq_true, not_true_eq_false, Nat.reduceEqDiff, Nat.reduceAdd, reduceCtorEq, and_true, true_and, and_false, false_and, false_or, or_false]
/-- one round of the model's ring where it can't go on -/
theorem r_dead {σ' τ' : px_M} {r x1 x2 x3 x4 : Int32} (hRm : mR τ.2.2) (en : τ.1 4 1 = nI n) (y2 : f_13 tT τ 0 (nI 0) (nI n - nI 1) = some (r, τ')) (hd : ded σ0 τ0 σ' τ') : f_18_78 tT τ 0 x1 x2 x3 x4 = some (.inr τ') := by
  have kk1 : vp_in (nI 1) 1072 := (vp_in_eq (by omega)).mpr (by omega)
  have kk2 : (nI 1).toNatClampNeg = 1 := nI_clamp (by omega)
  obtain ⟨f, f0, f5, f1⟩ := ded_x hd
  have fa : ¬ nI f = nI 0 := by rw [nI_eq (by omega) (by omega)]; exact f0
  unfold f_18_78
  simp only [la_0, la_4, rm_0_4 hRm, kk1, kk2, en, y2, f1, fa, gd_tt, oA_arr, px_obj_s, Option.bind_some, Option.map_some, Option.bind_none, eq_self, true_or, or_true, px_av_0, px_av_1, px_av_2, px_av_10, px_av_11, bn, wi_1, wi_2, wl_1, wl_21, wl_22, wr_1, wr_21, wr_22, Sum.elim_inl, Sum.elim_inr, ↓reduceIte, Nat.reduceLT, Nat.reduceLeDiff, not_false_eq_true, not_true_eq_false, Nat.reduceEqDiff, Nat.reduceAdd, reduceCtorEq, and_true, true_and, and_false, false_and, false_or, or_false]
theorem j_rings (hx : cx σ0 τ0 b e K pl bh κ v) : ∀ y i σ τ k B M a l (A X Y1 Y2 : Int32), i + y = 12 → ex σ0 τ0 K pl bh κ v n B nr S ln σ τ k C (S nr) [] → S nr ≤ k → bc 11 M = i → M < 2 ^ n → ((0 < i ∧ A = nI a ∧ X = nI l ∧ Y1 = nI a ∧ Y2 = nI l ∧ a < n ∧ l < n ∧ (2 ≤ i → l ≠ a) ∧ M.testBit a = true ∧ M.testBit l = true) ∨ (i = 0 ∧ A = nI (tcd (κ k) (v k)) ∧ X = nI (tcd (κ k) (v k)))) → oc σ0 τ0 (lpO (fun s : Int32 × Int32 × Int32 × px_M => F_9023_19 tT 150 A s.1 s.2.1 s.2.2.1 s.2.2.2) (nI M, X, nI i, σ)) (lpO (fun s : Int32 × Int32 × Int32 × Int32 × px_M => F_18_9 tT 0 s.1 s.2.1 s.2.2.1 s.2.2.2.1 s.2.2.2.2) (Y1, Y2, nI M, nI i, τ)) (lns σ0 τ0 K pl bh κ v ln k) := by
  intro y
  induction y with
  | zero =>
    intro i σ τ k B M a l A X Y1 Y2 hi h hm hb hM hc
    have := bc_le 11 M
    omega
  | succ y ih =>
    intro i σ τ k B M a l A X Y1 Y2 hi h hm hb hM hc
    have kk1 : vp_in (nI 1) 1072 := (vp_in_eq (by omega)).mpr (by omega)
    have kk2 : (nI 1).toNatClampNeg = 1 := nI_clamp (by omega)
    have hRm := (cx_t hx h.1.1.2).1
    obtain ⟨hR, -⟩ := cx_c hx h.1.1.1
    have en := h.2.2.1.1
    have d1 := h.2.1.1
    have hn := d1.2.2.2.1.1
    have hk := h.1.2.1
    obtain ⟨k1, k2, k3, k4, k5, k6, k7, k8⟩ := cx_k hx hk
    have p2 := h.1.2.2.1.2.1
    have p6 := h.1.2.2.2.2.2.1
    have p7 := h.1.2.2.2.2.2.2.1
    have p8 := h.1.2.2.2.2.2.2.2
    have n1 := k_isNum hx h.1
    have i1 := m_is hx h.1 (c := 16) (by omega)
    have hM2 : M < 2048 := Nat.lt_of_lt_of_le hM (pw_le hn)
    have a11 : ¬ nI 11 < nI i := by rw [nI_ltI (by omega) (by omega)]; omega
    have n10' : ¬ nI 1 = nI 0 := by decide
    have b16 : nI (κ k) = nI 16 ↔ κ k = 16 := nI_eq (by omega) (by omega)
    by_cases hend : 3 ≤ i ∧ κ k ≠ 16
    · -- the ring is closed
      obtain ⟨h3, h16⟩ := hend
      rcases hc with ⟨c0, rfl, rfl, rfl, rfl, c5, c6, c7, c8, c9⟩ | ⟨c0, -⟩
      · have a3 : ¬ nI i < nI 3 := by rw [nI_ltI (by omega) (by omega)]; omega
        rw [decide_eq_false h16, mb_f0] at n1
        have a4 : ¬ nI (κ k) = nI 16 := mt b16.mp h16
        obtain ⟨σ', τ', y1, y2, y3, -⟩ := j_link hx h c6 c5 (c7 (by omega))
        refine Or.inl ⟨σ', τ', lp_end ?_, lp_end ?_, k, n, _, nr, S, C, y3, Nat.le_refl _, hm⟩
        · dsimp only
          unfold F_9023_19 f_9023_107
          simp only [la_150, la_140, la_141, rc_150_3 hR, rc_140_0 hR, a11, a3, n1, y1, gd_tt, oA_arr, px_obj_s, Option.bind_some, Option.map_some, Option.bind_none, eq_self, true_or, or_true, px_av_0, px_av_1, px_av_2, px_av_10, px_av_11, bn, wi_1, wi_2, wl_1, wl_21, wl_22, wr_1, wr_21, wr_22, Sum.elim_inl, Sum.elim_inr, ↓reduceIte, Nat.reduceLT, Nat.reduceLeDiff, not_false_eq_true, not_true_eq_false, Nat.reduceEqDiff, Nat.reduceAdd, reduceCtorEq, and_true, true_and, and_false, false_and, false_or, or_false]
        · dsimp only
          unfold F_18_9 f_18_138
          simp only [la_0, la_4, rm_0_4 hRm, p8, a3, p6, a4, y2, gd_tt, oA_arr, px_obj_s, Option.bind_some, Option.map_some, Option.bind_none, eq_self, true_or, or_true, px_av_0, px_av_1, px_av_2, px_av_10, px_av_11, bn, wi_1, wi_2, wl_1, wl_21, wl_22, wr_1, wr_21, wr_22, Sum.elim_inl, Sum.elim_inr, ↓reduceIte, Nat.reduceLT, Nat.reduceLeDiff, not_false_eq_true, not_true_eq_false, Nat.reduceEqDiff, Nat.reduceAdd, reduceCtorEq, and_true, true_and, and_false, false_and, false_or, or_false]
      · omega
    · have c1 : F_9023_19 tT 150 A (nI M) X (nI i) σ = f_9023_42 tT σ 150 (nI M) A X (nI i) := by
        unfold F_9023_19
        by_cases h3 : i < 3
        · have a3 : nI i < nI 3 := by rw [nI_ltI (by omega) (by omega)]; omega
          simp only [a11, a3, gd_tt, oA_arr, px_obj_s, Option.bind_some, Option.map_some, Option.bind_none, eq_self, true_or, or_true, px_av_0, px_av_1, px_av_2, px_av_10, px_av_11, bn, wi_1, wi_2, wl_1, wl_21, wl_22, wr_1, wr_21, wr_22, Sum.elim_inl, Sum.elim_inr, ↓reduceIte, Nat.reduceLT, Nat.reduceLeDiff, not_false_eq_true, not_true_eq_false, Nat.reduceEqDiff, Nat.reduceAdd, reduceCtorEq, and_true, true_and, and_false, false_and, false_or, or_false]
        · have a3 : ¬ nI i < nI 3 := by rw [nI_ltI (by omega) (by omega)]; omega
          have q : κ k = 16 := Classical.byContradiction fun z => hend ⟨by omega, z⟩
          rw [decide_eq_true q, mb_t1] at n1
          simp only [la_150, a11, a3, n1, n10', gd_tt, oA_arr, px_obj_s, Option.bind_some, Option.map_some, Option.bind_none, eq_self, true_or, or_true, px_av_0, px_av_1, px_av_2, px_av_10, px_av_11, bn, wi_1, wi_2, wl_1, wl_21, wl_22, wr_1, wr_21, wr_22, Sum.elim_inl, Sum.elim_inr, ↓reduceIte, Nat.reduceLT, Nat.reduceLeDiff, not_false_eq_true, not_true_eq_false, Nat.reduceEqDiff, Nat.reduceAdd, reduceCtorEq, and_true, true_and, and_false, false_and, false_or, or_false]
      have m1 : F_18_9 tT 0 Y1 Y2 (nI M) (nI i) τ = f_18_31 tT τ 0 Y1 Y2 (nI M) (nI i) := by
        unfold F_18_9
        by_cases h3 : i < 3
        · have a3 : nI i < nI 3 := by rw [nI_ltI (by omega) (by omega)]; omega
          simp only [la_0, p8, a3, gd_tt, oA_arr, px_obj_s, Option.bind_some, Option.map_some, Option.bind_none, eq_self, true_or, or_true, px_av_0, px_av_1, px_av_2, px_av_10, px_av_11, bn, wi_1, wi_2, wl_1, wl_21, wl_22, wr_1, wr_21, wr_22, Sum.elim_inl, Sum.elim_inr, ↓reduceIte, Nat.reduceLT, Nat.reduceLeDiff, not_false_eq_true, not_true_eq_false, Nat.reduceEqDiff, Nat.reduceAdd, reduceCtorEq, and_true, true_and, and_false, false_and, false_or, or_false]
        · have a3 : ¬ nI i < nI 3 := by rw [nI_ltI (by omega) (by omega)]; omega
          have q : κ k = 16 := Classical.byContradiction fun z => hend ⟨by omega, z⟩
          have a4 : nI (κ k) = nI 16 := b16.mpr q
          simp only [la_0, p8, a3, p6, a4, gd_tt, oA_arr, px_obj_s, Option.bind_some, Option.map_some, Option.bind_none, eq_self, true_or, or_true, px_av_0, px_av_1, px_av_2, px_av_10, px_av_11, bn, wi_1, wi_2, wl_1, wl_21, wl_22, wr_1, wr_21, wr_22, Sum.elim_inl, Sum.elim_inr, ↓reduceIte, Nat.reduceLT, Nat.reduceLeDiff, not_false_eq_true, not_true_eq_false, Nat.reduceEqDiff, Nat.reduceAdd, reduceCtorEq, and_true, true_and, and_false, false_and, false_or, or_false]
      rcases j_house hx h with ⟨q1, q2, q3, σ2, τ2, y1, y2, y3⟩ | ⟨q1, σ2, τ2, r, y1, y2, y3⟩
      · have p2' := p2
        rw [q1, show tcd 16 (v k) = v k from rfl] at p2'
        have hv := k2 q1
        have p7' := p7 q1
        rw [decide_eq_true q1, mb_t1] at i1
        have wi := w_in τ hv hn
        rw [decide_eq_true q2, mb_t1] at wi
        have isn := e_isIn τ (s := M) (j := v k) (by omega) (by omega)
        have l3 : (nI M).toInt64 = lN M := nI_l (by omega)
        have tst : (nI M &&& (nI 1 <<< (nI (v k) &&& 31)) = nI 0) ↔ M.testBit (v k) = false := ni_tst (by omega) (by omega)
        cases hbit : M.testBit (v k) with
        | true =>
          rw [hbit] at tst
          have a5 : ¬ (nI M &&& (nI 1 <<< (nI (v k) &&& 31)) = nI 0) := fun z => by have := tst.mp z; cases this
          rw [hbit, mb_t1] at isn
          obtain ⟨σ4, τ4, w1, w2, w3⟩ := j_blame hx h.1 (f := 3) (Or.inr ⟨Or.inl rfl, by omega⟩)
          obtain ⟨f, f0, f5, f1⟩ := ded_x w3
          have fa : ¬ nI f = nI 0 := by rw [nI_eq (by omega) (by omega)]; exact f0
          have hRm4 := (cx_t hx w3.1.2).1
          refine Or.inr ⟨σ4, τ4, lp_end ?_, lp_end ?_, w3⟩
          · dsimp only
            rw [c1]
            unfold f_9023_42
            simp only [la_150, q3, n10', p2', a5, w1, gd_tt, oA_arr, px_obj_s, Option.bind_some, Option.map_some, Option.bind_none, eq_self, true_or, or_true, px_av_0, px_av_1, px_av_2, px_av_10, px_av_11, bn, wi_1, wi_2, wl_1, wl_21, wl_22, wr_1, wr_21, wr_22, Sum.elim_inl, Sum.elim_inr, ↓reduceIte, Nat.reduceLT, Nat.reduceLeDiff, not_false_eq_true, not_true_eq_false, Nat.reduceEqDiff, Nat.reduceAdd, reduceCtorEq, and_true, true_and, and_false, false_and, false_or, or_false]
          · dsimp only
            rw [m1]
            unfold f_18_31 f_18_61 f_18_78
            simp only [la_0, la_4, rm_0_4 hRm, rm_0_4 hRm4, kk1, kk2, en, i1, n10', p7', wi, l3, isn, w2, z_takes f0 f5 f1, f1, fa, gd_tt, oA_arr, px_obj_s, Option.bind_some, Option.map_some, Option.bind_none, eq_self, true_or, or_true, px_av_0, px_av_1, px_av_2, px_av_10, px_av_11, bn, wi_1, wi_2, wl_1, wl_21, wl_22, wr_1, wr_21, wr_22, Sum.elim_inl, Sum.elim_inr, ↓reduceIte, Nat.reduceLT, Nat.reduceLeDiff, not_false_eq_true, not_true_eq_false, Nat.reduceEqDiff, Nat.reduceAdd, reduceCtorEq, and_true, true_and, and_false, false_and, false_or, or_false]
        | false =>
          have a5 : nI M &&& (nI 1 <<< (nI (v k) &&& 31)) = nI 0 := tst.mpr hbit
          rw [hbit, mb_f0] at isn
          have bs : nI 1 <<< (nI (v k) &&& 31) = nI (2 ^ v k) := ni_1s (by omega)
          have a5b : nI M &&& nI (2 ^ v k) = nI 0 := by rw [← bs]; exact a5
          have hb' : bc 11 (M ||| 2 ^ v k) = i + 1 := by rw [bc_one (by omega) hbit, hb]
          have hM' : M ||| 2 ^ v k < 2 ^ n := Nat.or_lt_two_pow hM (Nat.pow_lt_pow_right (by omega) q2)
          have tbv : (M ||| 2 ^ v k).testBit (v k) = true := by rw [Nat.testBit_or, Nat.testBit_two_pow_self, Bool.or_true]
          have hRm2 := (cx_t hx y3.1.1.2).1
          have p82 := y3.1.2.2.2.2.2.2.2
          -- the model's number, taken
          have m2 : f_18_31 tT τ 0 Y1 Y2 (nI M) (nI i) = f_18_108 tT τ2 0 Y1 Y2 (nI (M ||| 2 ^ v k)) (nI i) (nI (v k)) := by
            unfold f_18_31 f_18_61 f_18_78
            simp only [la_0, la_4, rm_0_4 hRm, kk1, kk2, en, i1, n10', p7', wi, l3, isn, y2, p82, bs, fa_or, gd_tt, oA_arr, px_obj_s, Option.bind_some, Option.map_some, Option.bind_none, eq_self, true_or, or_true, px_av_0, px_av_1, px_av_2, px_av_10, px_av_11, bn, wi_1, wi_2, wl_1, wl_21, wl_22, wr_1, wr_21, wr_22, Sum.elim_inl, Sum.elim_inr, ↓reduceIte, Nat.reduceLT, Nat.reduceLeDiff, not_false_eq_true, not_true_eq_false, Nat.reduceEqDiff, Nat.reduceAdd, reduceCtorEq, and_true, true_and, and_false, false_and, false_or, or_false]
          rcases hc with ⟨c0, rfl, rfl, rfl, rfl, c5, c6, c7, c8, c9⟩ | ⟨c0, rfl, rfl⟩
          · have hne : l ≠ v k := fun z => by rw [z, hbit] at c9; cases c9
            have hna : v k ≠ a := fun z => by rw [← z, hbit] at c8; cases c8
            have a6 : ¬ nI i = nI 0 := by rw [nI_eq (by omega) (by omega)]; omega
            obtain ⟨σ3, τ3, z1, z2, z3, z4⟩ := j_link hx h c6 q2 hne
            have p23 : σ3.1 150 9 = nI (v k) := by rw [z4.1 150 9 (tw2_n (by decide) (by decide))]; exact p2'
            obtain ⟨σ4, τ4, w1, w2, w3, -⟩ := j_adv hx z3 (by omega)
            obtain ⟨σ5, τ5, u1, u2, u3, -⟩ := j_link hx y3 c6 q2 hne
            rw [lp_next (a' := (nI (M ||| 2 ^ v k), nI (v k), nI (i + 1), σ4)) (by
              dsimp only
              rw [c1]
              unfold f_9023_42 f_9023_77 f_9023_101
              simp only [la_150, la_140, la_141, rc_150_3 hR, rc_140_0 hR, q3, n10', p2', a5b, bs, fa_or, z1, w1, p23, nI_add, gd_tt, oA_arr, px_obj_s, Option.bind_some, Option.map_some, Option.bind_none, eq_self, true_or, or_true, px_av_0, px_av_1, px_av_2, px_av_10, px_av_11, bn, wi_1, wi_2, wl_1, wl_21, wl_22, wr_1, wr_21, wr_22, Sum.elim_inl, Sum.elim_inr, ↓reduceIte, Nat.reduceLT, Nat.reduceLeDiff, not_false_eq_true, not_true_eq_false, Nat.reduceEqDiff, Nat.reduceAdd, reduceCtorEq, and_true, true_and, and_false, false_and, false_or, or_false])]
            rw [lp_next (a' := (nI a, nI (v k), nI (M ||| 2 ^ v k), nI (i + 1), τ5)) (by
              dsimp only
              rw [m1, m2]
              unfold f_18_108 f_18_129
              simp only [la_0, la_4, rm_0_4 hRm2, a6, u2, nI_add, gd_tt, oA_arr, px_obj_s, Option.bind_some, Option.map_some, Option.bind_none, eq_self, true_or, or_true, px_av_0, px_av_1, px_av_2, px_av_10, px_av_11, bn, wi_1, wi_2, wl_1, wl_21, wl_22, wr_1, wr_21, wr_22, Sum.elim_inl, Sum.elim_inr, ↓reduceIte, Nat.reduceLT, Nat.reduceLeDiff, not_false_eq_true, not_true_eq_false, Nat.reduceEqDiff, Nat.reduceAdd, reduceCtorEq, and_true, true_and, and_false, false_and, false_or, or_false])]
            have tba : (M ||| 2 ^ v k).testBit a = true := by rw [Nat.testBit_or, c8, Bool.true_or]
            rcases ih (i + 1) σ4 τ5 (k + 1) (jn B l (v k)) (M ||| 2 ^ v k) a (v k) (nI a) (nI (v k)) (nI a) (nI (v k)) (by omega) (ex_mix w3 u3) (by omega) hb' hM' (Or.inl ⟨by omega, rfl, rfl, rfl, rfl, c5, q2, fun _ => hna, tba, tbv⟩) with ⟨σ6, τ6, x1, x2, k', n', B', nr', S', C', x3, x4, x5⟩ | hd
            · exact Or.inl ⟨σ6, τ6, x1, x2, k', n', B', nr', S', C', x3, by omega, x5⟩
            · exact Or.inr hd
          · have a6 : nI i = nI 0 := by rw [c0]
            have sl := c_selfl d1 q2
            have tk : nI (tcd (κ k) (v k)) = nI (v k) := by rw [q1]; rfl
            rw [tk] at c1 ⊢
            rw [lp_next (a' := (nI (M ||| 2 ^ v k), nI (v k), nI (i + 1), σ2)) (by
              dsimp only
              rw [c1]
              unfold f_9023_42 f_9023_77 f_9023_101
              simp only [la_150, la_140, la_141, rc_150_3 hR, rc_140_0 hR, q3, n10', p2', a5b, bs, fa_or, sl, y1, nI_add, gd_tt, oA_arr, px_obj_s, Option.bind_some, Option.map_some, Option.bind_none, eq_self, true_or, or_true, px_av_0, px_av_1, px_av_2, px_av_10, px_av_11, bn, wi_1, wi_2, wl_1, wl_21, wl_22, wr_1, wr_21, wr_22, Sum.elim_inl, Sum.elim_inr, ↓reduceIte, Nat.reduceLT, Nat.reduceLeDiff, not_false_eq_true, not_true_eq_false, Nat.reduceEqDiff, Nat.reduceAdd, reduceCtorEq, and_true, true_and, and_false, false_and, false_or, or_false])]
            rw [lp_next (a' := (nI (v k), nI (v k), nI (M ||| 2 ^ v k), nI (i + 1), τ2)) (by
              dsimp only
              rw [m1, m2]
              unfold f_18_108 f_18_129
              simp only [a6, bn, ↓reduceIte]
              rw [← a6, nI_add])]
            rcases ih (i + 1) σ2 τ2 (k + 1) B (M ||| 2 ^ v k) (v k) (v k) (nI (v k)) (nI (v k)) (nI (v k)) (nI (v k)) (by omega) y3 (by omega) hb' hM' (Or.inl ⟨by omega, rfl, rfl, rfl, rfl, q2, q2, fun z => by omega, tbv, tbv⟩) with ⟨σ6, τ6, x1, x2, k', n', B', nr', S', C', x3, x4, x5⟩ | hd
            · exact Or.inl ⟨σ6, τ6, x1, x2, k', n', B', nr', S', C', x3, by omega, x5⟩
            · exact Or.inr hd
      · have m78 : f_18_78 tT τ 0 Y1 Y2 (nI M) (nI i) = some (.inr τ2) := r_dead hRm en y2 y3
        refine Or.inr ⟨σ2, τ2, lp_end ?_, lp_end ?_, y3⟩
        · dsimp only
          rw [c1]
          unfold f_9023_42
          simp only [la_150, y1, gd_tt, oA_arr, px_obj_s, Option.bind_some, Option.map_some, Option.bind_none, eq_self, true_or, or_true, px_av_0, px_av_1, px_av_2, px_av_10, px_av_11, bn, wi_1, wi_2, wl_1, wl_21, wl_22, wr_1, wr_21, wr_22, Sum.elim_inl, Sum.elim_inr, ↓reduceIte, Nat.reduceLT, Nat.reduceLeDiff, not_false_eq_true, not_true_eq_false, Nat.reduceEqDiff, Nat.reduceAdd, reduceCtorEq, and_true, true_and, and_false, false_and, false_or, or_false]
        · dsimp only
          rw [m1]
          unfold f_18_31
          by_cases hq : κ k = 16
          · rw [decide_eq_true hq, mb_t1] at i1
            have wi := w_in τ (k2 hq) hn
            rw [decide_eq_false (fun z => q1 ⟨hq, z⟩), mb_f0] at wi
            simp only [la_0, la_4, rm_0_4 hRm, kk1, kk2, en, i1, n10', p7 hq, wi, m78, gd_tt, oA_arr, px_obj_s, Option.bind_some, Option.map_some, Option.bind_none, eq_self, true_or, or_true, px_av_0, px_av_1, px_av_2, px_av_10, px_av_11, bn, wi_1, wi_2, wl_1, wl_21, wl_22, wr_1, wr_21, wr_22, Sum.elim_inl, Sum.elim_inr, ↓reduceIte, Nat.reduceLT, Nat.reduceLeDiff, not_false_eq_true, not_true_eq_false, Nat.reduceEqDiff, Nat.reduceAdd, reduceCtorEq, and_true, true_and, and_false, false_and, false_or, or_false]
          · rw [decide_eq_false hq, mb_f0] at i1
            simp only [la_0, i1, m78, gd_tt, oA_arr, px_obj_s, Option.bind_some, Option.map_some, Option.bind_none, eq_self, true_or, or_true, px_av_0, px_av_1, px_av_2, px_av_10, px_av_11, bn, wi_1, wi_2, wl_1, wl_21, wl_22, wr_1, wr_21, wr_22, Sum.elim_inl, Sum.elim_inr, ↓reduceIte, Nat.reduceLT, Nat.reduceLeDiff, not_false_eq_true, not_true_eq_false, Nat.reduceEqDiff, Nat.reduceAdd, reduceCtorEq, and_true, true_and, and_false, false_and, false_or, or_false]
theorem j_ring (hx : cx σ0 τ0 b e K pl bh κ v) (h : ex σ0 τ0 K pl bh κ v n B nr S ln σ τ k C (S nr) []) (hm : S nr ≤ k) {σ1 : px_M} (h9 : f_9015 tT σ1 150 = some σ) : oc σ0 τ0 (f_9023 tT σ1 150) (f_18 tT τ 0) (lns σ0 τ0 K pl bh κ v ln k) := by
  have p2 := h.1.2.2.1.2.1
  have key := j_rings hx 12 0 σ τ k B 0 0 0 (nI (tcd (κ k) (v k))) (nI (tcd (κ k) (v k))) (-1) (-1) (by omega) h hm (bc_0 11) (Nat.two_pow_pos _) (Or.inr ⟨rfl, rfl, rfl⟩)
  have e1 : f_9023 tT σ1 150 = lpO (fun s : Int32 × Int32 × Int32 × px_M => F_9023_19 tT 150 (nI (tcd (κ k) (v k))) s.1 s.2.1 s.2.2.1 s.2.2.2) (nI 0, nI (tcd (κ k) (v k)), nI 0, σ) := by
    unfold f_9023 f_9023_19
    simp only [la_150, h9, p2, gd_tt, px_obj_s, Option.bind_some, eq_self, ↓reduceIte]
  rw [e1]
  exact key
end
