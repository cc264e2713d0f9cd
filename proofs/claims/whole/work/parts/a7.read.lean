/-! two readers: line by line -/
theorem lp_map {α β : Type} {F : α → Option (α ⊕ β)} {a : α} {o : Option β} (h : F a = o.map Sum.inr) : lpO F a = o := by
  rw [lpO_eq, h]
  cases o <;> rfl
section
variable {σ0 τ0 σ τ : px_M} {b pl bh κ v : Nat → Nat} {e K k n nr m ln : Nat} {B S C : Nat → Nat} {ts us : List Bool}
theorem m_eats1 (hx : cx σ0 τ0 b e K pl bh κ v) (h : pos σ0 τ0 K pl bh κ v σ τ k) {c : Nat} (hc : c < 32) (q : κ k = c) {τ' : px_M} (y : f_9 tT τ 0 = some τ') : f_12 tT τ 0 (nI c) = some (nI 1, τ') := by
  have his := m_is hx h hc
  rw [decide_eq_true q, mb_t1] at his
  unfold f_12
  simp only [la_0, his, n10, y, gd_tt, oA_arr, px_obj_s, Option.bind_some, Option.map_some, Option.bind_none, eq_self, true_or, or_true, px_av_0, px_av_1, px_av_2, px_av_10, px_av_11, bn, wi_1, wi_2, wl_1, wl_21, wl_22, wr_1, wr_21, wr_22, Sum.elim_inl, Sum.elim_inr, ↓reduceIte, Nat.reduceLT, Nat.reduceLeDiff, not_false_eq_true, not_true_eq_false, Nat.reduceEqDiff, Nat.reduceAdd, reduceCtorEq, and_true, true_and, and_false, false_and, false_or, or_false]
theorem m_eats0 (hx : cx σ0 τ0 b e K pl bh κ v) (h : pos σ0 τ0 K pl bh κ v σ τ k) {c : Nat} (hc : c < 32) (q : κ k ≠ c) : f_12 tT τ 0 (nI c) = some (nI 0, τ) := by
  have his := m_is hx h hc
  rw [decide_eq_false q, mb_f0] at his
  unfold f_12
  simp only [la_0, his, gd_tt, oA_arr, px_obj_s, Option.bind_some, Option.map_some, Option.bind_none, eq_self, true_or, or_true, px_av_0, px_av_1, px_av_2, px_av_10, px_av_11, bn, wi_1, wi_2, wl_1, wl_21, wl_22, wr_1, wr_21, wr_22, Sum.elim_inl, Sum.elim_inr, ↓reduceIte, Nat.reduceLT, Nat.reduceLeDiff, not_false_eq_true, not_true_eq_false, Nat.reduceEqDiff, Nat.reduceAdd, reduceCtorEq, and_true, true_and, and_false, false_and, false_or, or_false]
theorem ex_line (h : ex σ0 τ0 K pl bh κ v n B nr S ln σ τ k C m ts) : ex σ0 τ0 K pl bh κ v n B nr S (ln + 1) (px_wi σ 140 2 (nI (ln + 1))) (px_wi τ 4 0 (nI (ln + 1))) k C m ts := by
  obtain ⟨⟨⟨f1, f2⟩, hk, ⟨p1, p2, p3⟩, p4, p5, p6, p7, p8⟩, ⟨d1, d2, d3, d4, d5, d6, d7, d8, d9, d10⟩, ⟨e1, e2, e3, e4, e5, e6, e7, e8⟩, t1, t2, t3, t4⟩ := h
  have oC : ∀ l j, l ≠ 140 → (px_wi σ 140 2 (nI (ln + 1))).1 l j = σ.1 l j := fun l j q => wi_n q
  have oM : ∀ j, j ≠ 0 → (px_wi τ 4 0 (nI (ln + 1))).1 4 j = τ.1 4 j := fun j q => by
    show px_up τ.1 4 0 (nI (ln + 1)) 4 j = _
    rw [up_s, if_neg q]
  have r0 : ∀ j, (px_wi τ 4 0 (nI (ln + 1))).1 0 j = τ.1 0 j := fun j => wi_n (by decide)
  refine ⟨⟨⟨fr_tr f1 (fr_wi (fr_rf _ _) _ rfl), fr_tr f2 (fr_wi (fr_rf _ _) _ rfl)⟩, hk, ⟨?_, ?_, ?_⟩, ?_, ?_, ?_, fun q => ?_, ?_⟩, ⟨?_, ?_, fun r hr => ?_, fun r hr => ?_, fun hr => ?_, fun r h1 h2 => ?_, fun i hi => ?_, ?_, wi_s _ _ _ _, ?_⟩, ⟨?_, fun g hg => ?_, ?_, fun r hr => ⟨?_, ?_⟩, ?_, fun i hi => ?_, wi_s _ _ _ _, ?_⟩, t1, t2, t3, t4⟩
  · rw [oC _ _ (by decide)]; exact p1
  · rw [oC _ _ (by decide)]; exact p2
  · rw [oC _ _ (by decide)]; exact p3
  · rw [r0]; exact p4
  · rw [r0]; exact p5
  · rw [r0]; exact p6
  · rw [r0]; exact p7 q
  · rw [r0]; exact p8
  · exact ct_fr (S := fun l j => l == 140) (fr_wi (fr_rf _ _) _ rfl) (fun _ => rfl) (fun _ => rfl) d1
  · rw [oC _ _ (by decide)]; exact d2
  · rw [oC _ _ (by decide)]; exact d3 r hr
  · rw [oC _ _ (by decide)]; exact d4 r hr
  · rw [oC _ _ (by decide)]; exact d5 hr
  · rw [oC _ _ (by decide)]; exact d6 r h1 h2
  · rw [oC _ _ (by decide)]; exact d7 i hi
  · rw [oC _ _ (by decide)]; exact d8
  · show px_up σ.1 140 2 (nI (ln + 1)) 140 3 = _
    rw [up_s, if_neg (by decide)]; exact d10
  · rw [oM _ (by omega)]; exact e1
  · rw [oM _ (by omega)]; exact e2 g hg
  · rw [oM _ (by omega)]; exact e3
  · rw [oM _ (by omega)]; exact (e4 r hr).1
  · rw [oM _ (by omega)]; exact (e4 r hr).2
  · rw [oM _ (by omega)]; exact e5
  · rw [oM _ (by omega)]; exact e6 i hi
  · rw [oM _ (by omega)]; exact e8
theorem z_163 (hx : cx σ0 τ0 b e K pl bh κ v) (h : ded σ0 τ0 σ τ) : ∃ τ', f_28_163 tT τ 0 = some (.inl τ') ∧ ded σ0 τ0 σ τ' := by
  have kk1 : vp_in (nI 0) 1072 := (vp_in_eq (by omega)).mpr (by omega)
  have kk2 : (nI 0).toNatClampNeg = 0 := nI_clamp (by omega)
  have hRm := (cx_t hx h.1.2).1
  obtain ⟨⟨f1, f2⟩, f, p, g1, g2, g3, g4, g5, g6⟩ := h
  refine ⟨px_wi τ 4 0 (τ.1 4 0 + nI 1), ?_, ⟨f1, fr_tr f2 (fr_wi (fr_rf _ _) _ rfl)⟩, f, p, g1, g2, g3, by rw [wi_n (by decide)]; exact g4, g5, by rw [wi_n (by decide)]; exact g6⟩
  unfold f_28_163
  simp only [la_0, la_4, rm_0_4 hRm, kk1, kk2, gd_tt, oA_arr, px_obj_s, Option.bind_some, Option.map_some, Option.bind_none, eq_self, true_or, or_true, px_av_0, px_av_1, px_av_2, px_av_10, px_av_11, bn, wi_1, wi_2, wl_1, wl_21, wl_22, wr_1, wr_21, wr_22, Sum.elim_inl, Sum.elim_inr, ↓reduceIte, Nat.reduceLT, Nat.reduceLeDiff, not_false_eq_true, not_true_eq_false, Nat.reduceEqDiff, Nat.reduceAdd, reduceCtorEq, and_true, true_and, and_false, false_and, false_or, or_false]
theorem z_149 (hx : cx σ0 τ0 b e K pl bh κ v) (h : ded σ0 τ0 σ τ) : ∃ τ', f_28_149 tT τ 0 = some (.inl τ') ∧ ded σ0 τ0 σ τ' := by
  obtain ⟨τ', y1, y2⟩ := z_163 hx h
  obtain ⟨f, f0, f5, f1⟩ := ded_x h
  refine ⟨τ', ?_, y2⟩
  unfold f_28_149
  simp only [la_0, z_eats f0 f5 f1, z_fails f0 f5 f1, y1, gd_tt, oA_arr, px_obj_s, Option.bind_some, Option.map_some, Option.bind_none, eq_self, true_or, or_true, px_av_0, px_av_1, px_av_2, px_av_10, px_av_11, bn, wi_1, wi_2, wl_1, wl_21, wl_22, wr_1, wr_21, wr_22, Sum.elim_inl, Sum.elim_inr, ↓reduceIte, Nat.reduceLT, Nat.reduceLeDiff, not_false_eq_true, not_true_eq_false, Nat.reduceEqDiff, Nat.reduceAdd, reduceCtorEq, and_true, true_and, and_false, false_and, false_or, or_false]
theorem j_line (hx : cx σ0 τ0 b e K pl bh κ v) (h : ex σ0 τ0 K pl bh κ v n B nr S ln σ τ k C (S nr) []) (hm : S nr ≤ k) (h17 : κ k ≠ 17) {i : Nat} (hi : i ≤ k) : (∃ σ' τ' k' n' B' nr' S' C', F_9004_58 tT 150 (nI i) σ = some (.inl (nI (i + 1), σ')) ∧ F_28_68 tT 0 τ = some (.inl τ') ∧ ex σ0 τ0 K pl bh κ v n' B' nr' S' (ln + 1) σ' τ' k' C' (S' nr') [] ∧ k < k' ∧ S' nr' ≤ k') ∨ ∃ σ' τ', F_9004_58 tT 150 (nI i) σ = some (.inr σ') ∧ F_28_68 tT 0 τ = some (.inl τ') ∧ ded σ0 τ0 σ' τ' := by
  have hk := h.1.2.1
  obtain ⟨k1, k2, k3, k4, k5, k6, k7, k8⟩ := cx_k hx hk
  have hkK := k6 h17
  have p2 := h.1.2.2.1.2.1
  have p6 := h.1.2.2.2.2.2.1
  have p8 := h.1.2.2.2.2.2.2.2
  have a1 : ¬ nI 900 ≤ nI i := by rw [nI_leI (by omega) (by omega)]; omega
  have t17 : nI (tcd (κ k) (v k)) = nI 3005 ↔ κ k = 17 := tcd_eq hx hk (c := 17) (by omega) (by omega) (by omega)
  have t0 : nI (tcd (κ k) (v k)) = nI 1004 ↔ κ k = 0 := tcd_eq hx hk (c := 0) (by omega) (by omega) (by omega)
  have t1 : nI (tcd (κ k) (v k)) = nI 3000 ↔ κ k = 1 := tcd_eq hx hk (c := 1) (by omega) (by omega) (by omega)
  have t2 : nI (tcd (κ k) (v k)) = nI 3001 ↔ κ k = 2 := tcd_eq hx hk (c := 2) (by omega) (by omega) (by omega)
  have t3 : nI (tcd (κ k) (v k)) = nI 3002 ↔ κ k = 3 := tcd_eq hx hk (c := 3) (by omega) (by omega) (by omega)
  have b17 : ¬ nI (tcd (κ k) (v k)) = nI 3005 := mt t17.mp h17
  have m17 : ¬ nI (κ k) = nI 17 := by rw [nI_eq (by omega) (by omega)]; exact h17
  have n10' : ¬ nI 1 = nI 0 := by decide
  -- which line it is
  have body : ∃ fc fm, oc σ0 τ0 fc fm (lns σ0 τ0 K pl bh κ v ln k) ∧ F_9004_58 tT 150 (nI i) σ = fc.bind (fun q => f_9004_158 tT q.2 150 (nI i) q.1) ∧ F_28_68 tT 0 τ = fm.bind (fun q => f_28_149 tT q 0) := by
    have lnk : ∀ σ' τ', lns σ0 τ0 K pl bh κ v ln (k + 1) σ' τ' → lns σ0 τ0 K pl bh κ v ln k σ' τ' := fun σ' τ' z => by
      obtain ⟨k', n', B', nr', S', C', z1, z2, z3⟩ := z
      exact ⟨k', n', B', nr', S', C', z1, by omega, z3⟩
    have ock : ∀ fc fm, oc σ0 τ0 fc fm (lns σ0 τ0 K pl bh κ v ln (k + 1)) → oc σ0 τ0 fc fm (lns σ0 τ0 K pl bh κ v ln k) := fun fc fm z => by
      rcases z with ⟨σ', τ', z1, z2, z3⟩ | z
      · exact Or.inl ⟨σ', τ', z1, z2, lnk σ' τ' z3⟩
      · exact Or.inr z
    obtain ⟨σ', τ', y1, y2, y3, -⟩ := j_adv hx h h17
    by_cases q0 : κ k = 0
    · refine ⟨f_9021 tT σ 150, f_16 tT τ' 0, ock _ _ (j_houses hx y3 (by omega) y1), ?_, ?_⟩
      · unfold F_9004_58
        simp only [la_150, a1, p2, b17, t0.mpr q0, gd_tt, px_obj_s, eq_self, ↓reduceIte]
        rw [if_neg (by decide)]
      · unfold F_28_68 f_28_92
        simp only [la_0, p8, p6, m17, m_eats1 hx h.1 (c := 0) (by omega) q0 y2, n10', gd_tt, px_obj_s, eq_self, bn, Option.bind_some, ↓reduceIte]
    · have b0 := mt t0.mp q0
      have z0 := m_eats0 hx h.1 (c := 0) (by omega) q0
      by_cases q1 : κ k = 1
      · refine ⟨f_9022 tT σ 150, f_17 tT τ' 0, ock _ _ (j_door (τ1 := τ) hx y3 (by omega) y1), ?_, ?_⟩
        · unfold F_9004_58
          simp only [la_150, a1, p2, b17, b0, t1.mpr q1, gd_tt, px_obj_s, eq_self, ↓reduceIte]
          rw [if_neg (by decide), if_neg (by decide)]
        · unfold F_28_68 f_28_99
          simp only [la_0, p8, p6, m17, z0, m_eats1 hx h.1 (c := 1) (by omega) q1 y2, n10', gd_tt, px_obj_s, eq_self, bn, Option.bind_some, ↓reduceIte]
      · have b1 := mt t1.mp q1
        have z1 := m_eats0 hx h.1 (c := 1) (by omega) q1
        by_cases q2 : κ k = 2
        · refine ⟨f_9023 tT σ 150, f_18 tT τ' 0, ock _ _ (j_ring hx y3 (by omega) y1), ?_, ?_⟩
          · unfold F_9004_58
            simp only [la_150, a1, p2, b17, b0, b1, t2.mpr q2, gd_tt, px_obj_s, eq_self, ↓reduceIte]
            rw [if_neg (by decide), if_neg (by decide), if_neg (by decide)]
          · unfold F_28_68 f_28_99 f_28_122
            simp only [la_0, p8, p6, m17, z0, z1, m_eats1 hx h.1 (c := 2) (by omega) q2 y2, n10', gd_tt, px_obj_s, eq_self, bn, Option.bind_some, ↓reduceIte]
        · have b2 := mt t2.mp q2
          have z2 := m_eats0 hx h.1 (c := 2) (by omega) q2
          have i3 := m_is hx h.1 (c := 3) (by omega)
          by_cases q3 : κ k = 3
          · rw [decide_eq_true q3, mb_t1] at i3
            refine ⟨f_9024 tT σ 150, f_27 tT τ 0, j_rule hx h hm h17 (by omega), ?_, ?_⟩
            · unfold F_9004_58
              simp only [la_150, a1, p2, b17, b0, b1, b2, t3.mpr q3, gd_tt, px_obj_s, eq_self, ↓reduceIte]
              rw [if_neg (by decide), if_neg (by decide), if_neg (by decide), if_neg (by decide)]
            · unfold F_28_68 f_28_99 f_28_129
              simp only [la_0, p8, p6, m17, z0, z1, z2, i3, n10', gd_tt, px_obj_s, eq_self, bn, Option.bind_some, ↓reduceIte]
          · have b3 := mt t3.mp q3
            rw [decide_eq_false q3, mb_f0] at i3
            obtain ⟨σ2, τ2, w1, w2, w3⟩ := j_blame hx h.1 (f := 2) (Or.inl rfl)
            refine ⟨f_9018 tT σ 150 (nI 2), f_10 tT τ 0 (nI 2), Or.inr ⟨σ2, τ2, w1, w2, w3⟩, ?_, ?_⟩
            · unfold F_9004_58
              simp only [la_150, a1, p2, b17, b0, b1, b2, b3, gd_tt, px_obj_s, eq_self, ↓reduceIte]
            · unfold F_28_68 f_28_99 f_28_129
              simp only [la_0, p8, p6, m17, z0, z1, z2, i3, n10', gd_tt, px_obj_s, eq_self, bn, Option.bind_some, ↓reduceIte]
  obtain ⟨fc, fm, y, e1, e2⟩ := body
  rw [e1, e2]
  rcases y with ⟨σ1, τ1, u1, u2, k', n', B', nr', S', C', u3, u4, u5⟩ | ⟨σ1, τ1, u1, u2, u3⟩
  · have hRm1 := (cx_t hx u3.1.1.2).1
    obtain ⟨hR1, -⟩ := cx_c hx u3.1.1.1
    have kk1 : vp_in (nI 0) 1072 := (vp_in_eq (by omega)).mpr (by omega)
    have kk2 : (nI 0).toNatClampNeg = 0 := nI_clamp (by omega)
    rcases j_pass hx u3 (c := 20) (by omega) (by omega) (by omega) (by omega) with ⟨-, σ2, τ2, w1, w2, w3⟩ | ⟨-, σ2, τ2, w1, w2, w3, w4⟩
    · have w1' : f_9019 tT σ1 150 (nI 4059) = some (nI 1, σ2) := w1
      obtain ⟨hR2, -⟩ := cx_c hx w3.1.1.1
      have hRm2 := (cx_t hx w3.1.1.2).1
      have d9 := w3.2.1.2.2.2.2.2.2.2.2.1
      have e7 := w3.2.2.1.2.2.2.2.2.2.1
      refine Or.inl ⟨px_wi σ2 140 2 (nI (ln + 1)), px_wi τ2 4 0 (nI (ln + 1)), k' + 1, n', B', nr', S', C', ?_, ?_, ex_line w3, by omega, by omega⟩
      · rw [u1]
        unfold f_9004_158
        simp only [la_150, la_140, rc_150_3 hR2, n10', w1', d9, nI_add, gd_tt, oA_arr, px_obj_s, Option.bind_some, Option.map_some, Option.bind_none, eq_self, true_or, or_true, px_av_0, px_av_1, px_av_2, px_av_10, px_av_11, bn, wi_1, wi_2, wl_1, wl_21, wl_22, wr_1, wr_21, wr_22, Sum.elim_inl, Sum.elim_inr, ↓reduceIte, Nat.reduceLT, Nat.reduceLeDiff, not_false_eq_true, not_true_eq_false, Nat.reduceEqDiff, Nat.reduceAdd, reduceCtorEq, and_true, true_and, and_false, false_and, false_or, or_false]
      · rw [u2]
        unfold f_28_149 f_28_163
        simp only [la_0, la_4, rm_0_4 hRm2, kk1, kk2, w2, n10', e7, nI_add, gd_tt, oA_arr, px_obj_s, Option.bind_some, Option.map_some, Option.bind_none, eq_self, true_or, or_true, px_av_0, px_av_1, px_av_2, px_av_10, px_av_11, bn, wi_1, wi_2, wl_1, wl_21, wl_22, wr_1, wr_21, wr_22, Sum.elim_inl, Sum.elim_inr, ↓reduceIte, Nat.reduceLT, Nat.reduceLeDiff, not_false_eq_true, not_true_eq_false, Nat.reduceEqDiff, Nat.reduceAdd, reduceCtorEq, and_true, true_and, and_false, false_and, false_or, or_false]
    · have w1' : f_9019 tT σ1 150 (nI 4059) = some (nI 0, σ2) := w1
      obtain ⟨τ3, x1, x2⟩ := z_163 hx w4
      refine Or.inr ⟨σ2, τ3, ?_, ?_, x2⟩
      · rw [u1]
        unfold f_9004_158
        simp only [la_150, n10', w1', gd_tt, oA_arr, px_obj_s, Option.bind_some, Option.map_some, Option.bind_none, eq_self, true_or, or_true, px_av_0, px_av_1, px_av_2, px_av_10, px_av_11, bn, wi_1, wi_2, wl_1, wl_21, wl_22, wr_1, wr_21, wr_22, Sum.elim_inl, Sum.elim_inr, ↓reduceIte, Nat.reduceLT, Nat.reduceLeDiff, not_false_eq_true, not_true_eq_false, Nat.reduceEqDiff, Nat.reduceAdd, reduceCtorEq, and_true, true_and, and_false, false_and, false_or, or_false]
      · rw [u2]
        unfold f_28_149
        simp only [la_0, w2, w3, x1, gd_tt, oA_arr, px_obj_s, Option.bind_some, Option.map_some, Option.bind_none, eq_self, true_or, or_true, px_av_0, px_av_1, px_av_2, px_av_10, px_av_11, bn, wi_1, wi_2, wl_1, wl_21, wl_22, wr_1, wr_21, wr_22, Sum.elim_inl, Sum.elim_inr, ↓reduceIte, Nat.reduceLT, Nat.reduceLeDiff, not_false_eq_true, not_true_eq_false, Nat.reduceEqDiff, Nat.reduceAdd, reduceCtorEq, and_true, true_and, and_false, false_and, false_or, or_false]
  · obtain ⟨τ3, x1, x2⟩ := z_149 hx u3
    refine Or.inr ⟨σ1, τ3, ?_, ?_, x2⟩
    · rw [u1]
      unfold f_9004_158
      simp only [gd_tt, oA_arr, px_obj_s, Option.bind_some, Option.map_some, Option.bind_none, eq_self, true_or, or_true, px_av_0, px_av_1, px_av_2, px_av_10, px_av_11, bn, wi_1, wi_2, wl_1, wl_21, wl_22, wr_1, wr_21, wr_22, Sum.elim_inl, Sum.elim_inr, ↓reduceIte, Nat.reduceLT, Nat.reduceLeDiff, not_false_eq_true, not_true_eq_false, Nat.reduceEqDiff, Nat.reduceAdd, reduceCtorEq, and_true, true_and, and_false, false_and, false_or, or_false]
    · rw [u2]
      simp only [x1, Option.bind_some]
/-- what the reading comes to -/
def rdo (σ0 τ0 : px_M) (K : Nat) (pl bh κ v : Nat → Nat) (σ' τ' : px_M) : Prop := (∃ n' B' nr' S' C' ln' k', ex σ0 τ0 K pl bh κ v n' B' nr' S' ln' σ' τ' k' C' (S' nr') []) ∨ ded σ0 τ0 σ' τ'
theorem j_lines (hx : cx σ0 τ0 b e K pl bh κ v) : ∀ j i σ τ k n B nr S C ln, K ≤ k + j → ex σ0 τ0 K pl bh κ v n B nr S ln σ τ k C (S nr) [] → i ≤ k → S nr ≤ k → ∃ σ' τ', lpO (fun s : Int32 × px_M => F_9004_58 tT 150 s.1 s.2) (nI i, σ) = some σ' ∧ lpO (fun s : px_M => F_28_68 tT 0 s) τ = f_28_176 tT τ' 0 ∧ rdo σ0 τ0 K pl bh κ v σ' τ' := by
  have dead : ∀ σ' τ', ded σ0 τ0 σ' τ' → lpO (fun s : px_M => F_28_68 tT 0 s) τ' = f_28_176 tT τ' 0 := fun σ' τ' hd => by
    obtain ⟨f, f0, f5, f1⟩ := ded_x hd
    have fa : ¬ nI f = nI 0 := by rw [nI_eq (by omega) (by omega)]; exact f0
    refine lp_map ?_
    show F_28_68 tT 0 τ' = _
    unfold F_28_68
    simp only [la_0, f1, fa, gd_tt, px_obj_s, eq_self, bn, ↓reduceIte]
  have done : ∀ i σ τ k n B nr S C ln, ex σ0 τ0 K pl bh κ v n B nr S ln σ τ k C (S nr) [] → i ≤ k → κ k = 17 → ∃ σ' τ', lpO (fun s : Int32 × px_M => F_9004_58 tT 150 s.1 s.2) (nI i, σ) = some σ' ∧ lpO (fun s : px_M => F_28_68 tT 0 s) τ = f_28_176 tT τ' 0 ∧ rdo σ0 τ0 K pl bh κ v σ' τ' := by
    intro i σ τ k n B nr S C ln h hi h17
    have hk := h.1.2.1
    obtain ⟨k1, k2, k3, k4, k5, k6, k7, k8⟩ := cx_k hx hk
    have p2 := h.1.2.2.1.2.1
    have p6 := h.1.2.2.2.2.2.1
    have p8 := h.1.2.2.2.2.2.2.2
    have t17 : nI (tcd (κ k) (v k)) = nI 3005 := (tcd_eq hx hk (c := 17) (by omega) (by omega) (by omega)).mpr h17
    rw [t17] at p2
    rw [h17] at p6
    refine ⟨σ, τ, lp_end ?_, lp_map ?_, Or.inl ⟨n, B, nr, S, C, ln, k, h⟩⟩
    · show F_9004_58 tT 150 (nI i) σ = _
      unfold F_9004_58
      by_cases hi9 : 900 ≤ i
      · have a1 : nI 900 ≤ nI i := by rw [nI_leI (by omega) (by omega)]; omega
        simp only [a1, gd_tt, oA_arr, px_obj_s, Option.bind_some, Option.map_some, Option.bind_none, eq_self, true_or, or_true, px_av_0, px_av_1, px_av_2, px_av_10, px_av_11, bn, wi_1, wi_2, wl_1, wl_21, wl_22, wr_1, wr_21, wr_22, Sum.elim_inl, Sum.elim_inr, ↓reduceIte, Nat.reduceLT, Nat.reduceLeDiff, not_false_eq_true, not_true_eq_false, Nat.reduceEqDiff, Nat.reduceAdd, reduceCtorEq, and_true, true_and, and_false, false_and, false_or, or_false]
      · have a1 : ¬ nI 900 ≤ nI i := by rw [nI_leI (by omega) (by omega)]; omega
        simp only [la_150, a1, p2, gd_tt, oA_arr, px_obj_s, Option.bind_some, Option.map_some, Option.bind_none, eq_self, true_or, or_true, px_av_0, px_av_1, px_av_2, px_av_10, px_av_11, bn, wi_1, wi_2, wl_1, wl_21, wl_22, wr_1, wr_21, wr_22, Sum.elim_inl, Sum.elim_inr, ↓reduceIte, Nat.reduceLT, Nat.reduceLeDiff, not_false_eq_true, not_true_eq_false, Nat.reduceEqDiff, Nat.reduceAdd, reduceCtorEq, and_true, true_and, and_false, false_and, false_or, or_false]
    · show F_28_68 tT 0 τ = _
      unfold F_28_68
      simp only [la_0, p8, p6, gd_tt, px_obj_s, eq_self, bn, ↓reduceIte]
  intro j
  induction j with
  | zero =>
    intro i σ τ k n B nr S C ln hj h hi hm
    refine done i σ τ k n B nr S C ln h hi ?_
    have hk := h.1.2.1
    have : k = K := by omega
    rw [this]
    exact hx.2.2.1.2.2.2.2
  | succ j ih =>
    intro i σ τ k n B nr S C ln hj h hi hm
    by_cases h17 : κ k = 17
    · exact done i σ τ k n B nr S C ln h hi h17
    · rcases j_line hx h hm h17 hi with ⟨σ', τ', k', n', B', nr', S', C', y1, y2, y3, y4, y5⟩ | ⟨σ', τ', y1, y2, y3⟩
      · obtain ⟨σ2, τ2, z1, z2, z3⟩ := ih (i + 1) σ' τ' k' n' B' nr' S' C' (ln + 1) (by omega) y3 (by omega) y5
        refine ⟨σ2, τ2, ?_, ?_, z3⟩
        · rw [lp_next (a' := (nI (i + 1), σ')) y1]; exact z1
        · rw [lp_next (a' := τ') y2]; exact z2
      · refine ⟨σ', τ', lp_end y1, ?_, Or.inr y3⟩
        rw [lp_next (a' := τ') y2]; exact dead σ' τ' y3
end
