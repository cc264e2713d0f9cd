/-! two readers: atoms, terms, sums -/
theorem tcd_w : ∀ κ, κ < 32 → (κ == 16 || (decide (1000 ≤ tcd κ 0 ∧ tcd κ 0 < 2000) == (κ == 0 || decide (7 ≤ κ ∧ κ ≤ 14)))) = true := by decide +kernel
theorem tcd_wc : ∀ κ, κ < 15 → (κ < 7 ∨ (ctr (993 + κ) = tcd κ 0 ∧ 1000 ≤ 993 + κ ∧ 993 + κ ≤ 1007)) := by decide +kernel
theorem ctr_v {c : Nat} (h : c < 1000) : ctr c = c := by unfold ctr; rw [if_pos (by omega)]
section
variable {σ0 τ0 σ τ : px_M} {b pl bh κ v : Nat → Nat} {e K k n nr m ln : Nat} {B S C : Nat → Nat} {ts us : List Bool}
theorem k_isNum (hx : cx σ0 τ0 b e K pl bh κ v) (h : pos σ0 τ0 K pl bh κ v σ τ k) : f_9016 tT σ 150 = some (mb (decide (κ k = 16))) := by
  have hk := h.2.1
  have p2 := h.2.2.1.2.1
  have := tcd_num hx hk (cx_19 hx hk)
  unfold f_9016
  by_cases q : κ k = 16
  · have a : ¬ nI 1000 ≤ nI (tcd (κ k) (v k)) := fun z => this.mp z q
    rw [decide_eq_true q, mb_t1]
    simp only [la_150, p2, a, gd_tt, oA_arr, px_obj_s, Option.bind_some, Option.map_some, Option.bind_none, eq_self, true_or, or_true, px_av_0, px_av_1, px_av_2, px_av_10, px_av_11, bn, wi_1, wi_2, wl_1, wl_21, wl_22, wr_1, wr_21, wr_22, Sum.elim_inl, Sum.elim_inr, ↓reduceIte, Nat.reduceLT, Nat.reduceLeDiff, not_false_eq_true, not_true_eq_false, Nat.reduceEqDiff, Nat.reduceAdd, reduceCtorEq, and_true, true_and, and_false, false_and, false_or, or_false]
  · have a := this.mpr q
    rw [decide_eq_false q, mb_f0]
    simp only [la_150, p2, a, gd_tt, oA_arr, px_obj_s, Option.bind_some, Option.map_some, Option.bind_none, eq_self, true_or, or_true, px_av_0, px_av_1, px_av_2, px_av_10, px_av_11, bn, wi_1, wi_2, wl_1, wl_21, wl_22, wr_1, wr_21, wr_22, Sum.elim_inl, Sum.elim_inr, ↓reduceIte, Nat.reduceLT, Nat.reduceLeDiff, not_false_eq_true, not_true_eq_false, Nat.reduceEqDiff, Nat.reduceAdd, reduceCtorEq, and_true, true_and, and_false, false_and, false_or, or_false]
theorem k_isWord (hx : cx σ0 τ0 b e K pl bh κ v) (h : pos σ0 τ0 K pl bh κ v σ τ k) : f_9017 tT σ 150 = some (mb (decide (κ k = 0 ∨ (7 ≤ κ k ∧ κ k ≤ 14)))) := by
  have hk := h.2.1
  have p2 := h.2.2.1.2.1
  obtain ⟨k1, k2, k3, -⟩ := cx_k hx hk
  unfold f_9017
  by_cases q : κ k = 16
  · have hv := k2 q
    have a : nI (tcd (κ k) (v k)) < nI 1000 := by
      rw [q, show tcd 16 (v k) = v k from rfl, nI_ltI (by omega) (by omega)]; exact hv
    rw [decide_eq_false (by omega), mb_f0]
    simp only [la_150, p2, a, gd_tt, oA_arr, px_obj_s, Option.bind_some, Option.map_some, Option.bind_none, eq_self, true_or, or_true, px_av_0, px_av_1, px_av_2, px_av_10, px_av_11, bn, wi_1, wi_2, wl_1, wl_21, wl_22, wr_1, wr_21, wr_22, Sum.elim_inl, Sum.elim_inr, ↓reduceIte, Nat.reduceLT, Nat.reduceLeDiff, not_false_eq_true, not_true_eq_false, Nat.reduceEqDiff, Nat.reduceAdd, reduceCtorEq, and_true, true_and, and_false, false_and, false_or, or_false]
  · have hw := tcd_w (κ k) k1
    have hl := tcd_lt (κ k) k1
    rw [k3 q] at p2
    have hq : (κ k == 16) = false := beq_eq_false_iff_ne.mpr q
    rw [hq, Bool.false_or, beq_iff_eq] at hw
    have hw2 : (1000 ≤ tcd (κ k) 0 ∧ tcd (κ k) 0 < 2000) ↔ (κ k = 0 ∨ (7 ≤ κ k ∧ κ k ≤ 14)) := by
      constructor
      · intro z
        rw [decide_eq_true z] at hw
        have := hw.symm
        rwa [Bool.or_eq_true, beq_iff_eq, decide_eq_true_eq] at this
      · intro z
        have : (κ k == 0 || decide (7 ≤ κ k ∧ κ k ≤ 14)) = true := by rwa [Bool.or_eq_true, beq_iff_eq, decide_eq_true_eq]
        rw [this] at hw
        exact of_decide_eq_true hw
    by_cases h1 : tcd (κ k) 0 < 1000
    · have a : nI (tcd (κ k) 0) < nI 1000 := by rw [nI_ltI (by omega) (by omega)]; exact h1
      rw [decide_eq_false (fun z => by have := hw2.mpr z; omega), mb_f0]
      simp only [la_150, p2, a, gd_tt, oA_arr, px_obj_s, Option.bind_some, Option.map_some, Option.bind_none, eq_self, true_or, or_true, px_av_0, px_av_1, px_av_2, px_av_10, px_av_11, bn, wi_1, wi_2, wl_1, wl_21, wl_22, wr_1, wr_21, wr_22, Sum.elim_inl, Sum.elim_inr, ↓reduceIte, Nat.reduceLT, Nat.reduceLeDiff, not_false_eq_true, not_true_eq_false, Nat.reduceEqDiff, Nat.reduceAdd, reduceCtorEq, and_true, true_and, and_false, false_and, false_or, or_false]
    · have a : ¬ nI (tcd (κ k) 0) < nI 1000 := by rw [nI_ltI (by omega) (by omega)]; exact h1
      by_cases h2 : 2000 ≤ tcd (κ k) 0
      · have a2 : nI 2000 ≤ nI (tcd (κ k) 0) := by rw [nI_leI (by omega) (by omega)]; exact h2
        rw [decide_eq_false (fun z => by have := hw2.mpr z; omega), mb_f0]
        simp only [la_150, p2, a, a2, gd_tt, oA_arr, px_obj_s, Option.bind_some, Option.map_some, Option.bind_none, eq_self, true_or, or_true, px_av_0, px_av_1, px_av_2, px_av_10, px_av_11, bn, wi_1, wi_2, wl_1, wl_21, wl_22, wr_1, wr_21, wr_22, Sum.elim_inl, Sum.elim_inr, ↓reduceIte, Nat.reduceLT, Nat.reduceLeDiff, not_false_eq_true, not_true_eq_false, Nat.reduceEqDiff, Nat.reduceAdd, reduceCtorEq, and_true, true_and, and_false, false_and, false_or, or_false]
      · have a2 : ¬ nI 2000 ≤ nI (tcd (κ k) 0) := by rw [nI_leI (by omega) (by omega)]; exact h2
        rw [decide_eq_true (hw2.mp ⟨by omega, by omega⟩), mb_t1]
        simp only [la_150, p2, a, a2, gd_tt, oA_arr, px_obj_s, Option.bind_some, Option.map_some, Option.bind_none, eq_self, true_or, or_true, px_av_0, px_av_1, px_av_2, px_av_10, px_av_11, bn, wi_1, wi_2, wl_1, wl_21, wl_22, wr_1, wr_21, wr_22, Sum.elim_inl, Sum.elim_inr, ↓reduceIte, Nat.reduceLT, Nat.reduceLeDiff, not_false_eq_true, not_true_eq_false, Nat.reduceEqDiff, Nat.reduceAdd, reduceCtorEq, and_true, true_and, and_false, false_and, false_or, or_false]
/-- the class puts its token down as a code, and goes on -/
theorem k_put (hx : cx σ0 τ0 b e K pl bh κ v) (h : ex σ0 τ0 K pl bh κ v n B nr S ln σ τ k C m ts) (h6 : nr < 6) (h17 : κ k ≠ 17) {c : Nat} (hc : tcd (κ k) (v k) = ctr c) (hw : wrd c) (hL : ts.length < 64) (hm : m < 900) (g1 g2 g3 : px_M → Nat → Int32 → Option (Int32 × px_M)) : ∃ σ1 τ1 σ2 τ2, f_10004 tT σ 143 (nI (ctr c)) = some σ1 ∧ f_19 tT τ 0 (nI c) = some τ1 ∧ f_9032_14 tT g1 g2 g3 σ 150 = some (nI 1, σ2) ∧ f_9 tT τ1 0 = some τ2 ∧ ex σ0 τ0 K pl bh κ v n B nr S ln σ1 τ1 k (upm C m c) (m + 1) (false :: ts) ∧ ex σ0 τ0 K pl bh κ v n B nr S ln σ2 τ2 (k + 1) (upm C m c) (m + 1) (false :: ts) := by
  obtain ⟨σ1, τ1, y1, y2, y3⟩ := j_code hx h h6 (c := c) (us := false :: ts) (Or.inl ⟨hw, hL, rfl⟩) hm
  obtain ⟨σ2, τ2, z1, z2, z3, -⟩ := j_adv hx y3 h17
  obtain ⟨hR, -⟩ := cx_c hx h.1.1.1
  have p2 := h.1.2.2.1.2.1
  refine ⟨σ1, τ1, σ2, τ2, y1, y2, ?_, z2, y3, z3⟩
  unfold f_9032_14
  rw [p2, hc]
  simp only [la_150, la_140, la_143, rc_150_3 hR, rc_140_1 hR, y1, z1, gd_tt, oA_arr, px_obj_s, Option.bind_some, Option.map_some, Option.bind_none, eq_self, true_or, or_true, px_av_0, px_av_1, px_av_2, px_av_10, px_av_11, bn, wi_1, wi_2, wl_1, wl_21, wl_22, wr_1, wr_21, wr_22, Sum.elim_inl, Sum.elim_inr, ↓reduceIte, Nat.reduceLT, Nat.reduceLeDiff, not_false_eq_true, not_true_eq_false, Nat.reduceEqDiff, Nat.reduceAdd, reduceCtorEq, and_true, true_and, and_false, false_and, false_or, or_false]
theorem j_atom (hx : cx σ0 τ0 b e K pl bh κ v) (h6 : nr < 6) {x L : Nat} (hx6 : x ≤ 6) (hL : L < 64) {gs g2 g3 : px_M → Nat → Int32 → Option (Int32 × px_M)} {gm1 gm2 gm : px_M → Nat → Int32 → Option px_M} (hsum : x < 6 → pce σ0 τ0 K pl bh κ v n B nr S ln gs gm false (x + 1) L) : pce σ0 τ0 K pl bh κ v n B nr S ln (F_9032 tT gs g2 g3) (F_21 tT gm1 gm2 gm) false x L := by
  intro σ τ k C m ts h hm hts
  have hk := h.1.2.1
  obtain ⟨k1, k2, k3, k4, k5, k6, k7, k8⟩ := cx_k hx hk
  have p2 := h.1.2.2.1.2.1
  have p7 := h.1.2.2.2.2.2.2.1
  have p6 := h.1.2.2.2.2.2.1
  have p8 := h.1.2.2.2.2.2.2.2
  have n1 := k_isNum hx h.1
  have n2 := k_isWord hx h.1
  have i16 := m_is hx h.1 (c := 16) (by omega)
  have i0 := m_is hx h.1 (c := 0) (by omega)
  have i25 := m_is hx h.1 (c := 25) (by omega)
  by_cases q16 : κ k = 16
  · -- a number
    have hkK := k6 (by omega)
    have hv := k2 q16
    rw [decide_eq_true q16, mb_t1] at n1 i16
    obtain ⟨σ1, τ1, σ2, τ2, y1, y2, y3, y4, y5, y6⟩ := k_put hx h h6 (by omega) (c := v k) (by rw [q16, ctr_v hv]; rfl) (Or.inl hv) (by omega) (by omega) gs g2 g3
    refine Or.inl ⟨σ2, τ2, ?_, ?_, k + 1, _, m + 1, y6, by omega, by omega⟩
    · unfold F_9032
      simp only [la_150, n1, n10, y3, gd_tt, oA_arr, px_obj_s, Option.bind_some, Option.map_some, Option.bind_none, eq_self, true_or, or_true, px_av_0, px_av_1, px_av_2, px_av_10, px_av_11, bn, wi_1, wi_2, wl_1, wl_21, wl_22, wr_1, wr_21, wr_22, Sum.elim_inl, Sum.elim_inr, ↓reduceIte, Nat.reduceLT, Nat.reduceLeDiff, not_false_eq_true, not_true_eq_false, Nat.reduceEqDiff, Nat.reduceAdd, reduceCtorEq, and_true, true_and, and_false, false_and, false_or, or_false]
    · unfold F_21 f_21_17
      rw [p7 q16]
      simp only [la_0, i16, n10, y2, y4, gd_tt, oA_arr, px_obj_s, Option.bind_some, Option.map_some, Option.bind_none, eq_self, true_or, or_true, px_av_0, px_av_1, px_av_2, px_av_10, px_av_11, bn, wi_1, wi_2, wl_1, wl_21, wl_22, wr_1, wr_21, wr_22, Sum.elim_inl, Sum.elim_inr, ↓reduceIte, Nat.reduceLT, Nat.reduceLeDiff, not_false_eq_true, not_true_eq_false, Nat.reduceEqDiff, Nat.reduceAdd, reduceCtorEq, and_true, true_and, and_false, false_and, false_or, or_false]
  · rw [decide_eq_false q16, mb_f0] at n1 i16
    by_cases q0 : κ k = 0
    · -- houses
      have hkK := k6 (by omega)
      rw [decide_eq_true (Or.inl q0), mb_t1] at n2
      rw [decide_eq_true q0, mb_t1] at i0
      have hvk := k3 q16
      obtain ⟨σ1, τ1, σ2, τ2, y1, y2, y3, y4, y5, y6⟩ := k_put hx h h6 (by omega) (c := 1100) (by rw [q0, hvk]; decide) (Or.inr (Or.inr rfl)) (by omega) (by omega) gs g2 g3
      obtain ⟨σ3, τ3, z1, z2, z3, -⟩ := j_adv hx h (by omega)
      obtain ⟨σ4, τ4, w1, w2, w3⟩ := j_code hx z3 h6 (c := 1100) (us := false :: ts) (Or.inl ⟨Or.inr (Or.inr rfl), by omega, rfl⟩) (by omega)
      refine Or.inl ⟨σ2, τ4, ?_, ?_, k + 1, _, m + 1, ex_mix y6 w3, by omega, by omega⟩
      · unfold F_9032
        simp only [la_150, n1, n2, n10, y3, gd_tt, oA_arr, px_obj_s, Option.bind_some, Option.map_some, Option.bind_none, eq_self, true_or, or_true, px_av_0, px_av_1, px_av_2, px_av_10, px_av_11, bn, wi_1, wi_2, wl_1, wl_21, wl_22, wr_1, wr_21, wr_22, Sum.elim_inl, Sum.elim_inr, ↓reduceIte, Nat.reduceLT, Nat.reduceLeDiff, not_false_eq_true, not_true_eq_false, Nat.reduceEqDiff, Nat.reduceAdd, reduceCtorEq, and_true, true_and, and_false, false_and, false_or, or_false]
      · unfold F_21 f_21_32 f_12
        simp only [la_0, i16, i0, n10, z2, w2, gd_tt, oA_arr, px_obj_s, Option.bind_some, Option.map_some, Option.bind_none, eq_self, true_or, or_true, px_av_0, px_av_1, px_av_2, px_av_10, px_av_11, bn, wi_1, wi_2, wl_1, wl_21, wl_22, wr_1, wr_21, wr_22, Sum.elim_inl, Sum.elim_inr, ↓reduceIte, Nat.reduceLT, Nat.reduceLeDiff, not_false_eq_true, not_true_eq_false, Nat.reduceEqDiff, Nat.reduceAdd, reduceCtorEq, and_true, true_and, and_false, false_and, false_or, or_false]
    · rw [decide_eq_false q0, mb_f0] at i0
      have e0 : f_12 tT τ 0 (nI 0) = some (nI 0, τ) := by
        unfold f_12
        simp only [la_0, i0, gd_tt, oA_arr, px_obj_s, Option.bind_some, Option.map_some, Option.bind_none, eq_self, true_or, or_true, px_av_0, px_av_1, px_av_2, px_av_10, px_av_11, bn, wi_1, wi_2, wl_1, wl_21, wl_22, wr_1, wr_21, wr_22, Sum.elim_inl, Sum.elim_inr, ↓reduceIte, Nat.reduceLT, Nat.reduceLeDiff, not_false_eq_true, not_true_eq_false, Nat.reduceEqDiff, Nat.reduceAdd, reduceCtorEq, and_true, true_and, and_false, false_and, false_or, or_false]
      have lk : (nI (κ k)).toInt = κ k := nI_toInt (by omega)
      have wi := e_withinN τ (nI (κ k)) (lo := 7) (hi := 14) (by omega) (by omega)
      by_cases q7 : 7 ≤ κ k ∧ κ k ≤ 14
      · -- a word
        have hkK := k6 (by omega)
        rw [decide_eq_true (Or.inr q7), mb_t1] at n2
        rw [decide_eq_true (by omega), mb_t1] at wi
        have hvk := k3 q16
        have hcw : ctr (993 + κ k) = tcd (κ k) 0 := by
          rcases tcd_wc (κ k) (by omega) with z | z
          · omega
          · exact z.1
        obtain ⟨σ1, τ1, σ2, τ2, y1, y2, y3, y4, y5, y6⟩ := k_put hx h h6 (by omega) (c := 993 + κ k) (by rw [hvk, hcw]) (Or.inr (Or.inl ⟨by omega, by omega⟩)) (by omega) (by omega) gs g2 g3
        have ar : nI 1000 + nI (κ k) - nI 7 = nI (993 + κ k) := by
          rw [nI_add, ni_subL (show 7 ≤ 1000 + κ k by omega)]
          congr 1; omega
        refine Or.inl ⟨σ2, τ2, ?_, ?_, k + 1, _, m + 1, y6, by omega, by omega⟩
        · unfold F_9032
          simp only [la_150, n1, n2, n10, y3, gd_tt, oA_arr, px_obj_s, Option.bind_some, Option.map_some, Option.bind_none, eq_self, true_or, or_true, px_av_0, px_av_1, px_av_2, px_av_10, px_av_11, bn, wi_1, wi_2, wl_1, wl_21, wl_22, wr_1, wr_21, wr_22, Sum.elim_inl, Sum.elim_inr, ↓reduceIte, Nat.reduceLT, Nat.reduceLeDiff, not_false_eq_true, not_true_eq_false, Nat.reduceEqDiff, Nat.reduceAdd, reduceCtorEq, and_true, true_and, and_false, false_and, false_or, or_false]
        · unfold F_21 f_21_42 f_21_81
          simp only [la_0, i16, e0, p8, p6, wi, n10, ar, y2, y4, gd_tt, oA_arr, px_obj_s, Option.bind_some, Option.map_some, Option.bind_none, eq_self, true_or, or_true, px_av_0, px_av_1, px_av_2, px_av_10, px_av_11, bn, wi_1, wi_2, wl_1, wl_21, wl_22, wr_1, wr_21, wr_22, Sum.elim_inl, Sum.elim_inr, ↓reduceIte, Nat.reduceLT, Nat.reduceLeDiff, not_false_eq_true, not_true_eq_false, Nat.reduceEqDiff, Nat.reduceAdd, reduceCtorEq, and_true, true_and, and_false, false_and, false_or, or_false]
      · rw [decide_eq_false (by omega), mb_f0] at n2
        rw [decide_eq_false (by omega), mb_f0] at wi
        by_cases q25 : κ k = 25
        · -- within
          have hkK := k6 (by omega)
          have t25 : nI (tcd (κ k) (v k)) = nI 4040 := (tcd_eq hx hk (c := 25) (by omega) (by omega) (by omega)).mpr q25
          rw [decide_eq_true q25, mb_t1] at i25
          by_cases hxl : x < 6
          · have a1 : nI x < nI 6 := by rw [nI_ltI (by omega) (by omega)]; exact hxl
            have a2 : ¬ nI x = nI 6 := by rw [nI_eq (by omega) (by omega)]; omega
            obtain ⟨σ1, τ1, y1, y2, y3, -⟩ := j_adv hx h (by omega)
            have p81 := y3.1.2.2.2.2.2.2.2
            have go : f_20 tT τ 0 (nI x) = some (nI 1, τ1) := by
              unfold f_20 f_20_22
              simp only [la_0, a2, p8, y2, p81, gd_tt, oA_arr, px_obj_s, Option.bind_some, Option.map_some, Option.bind_none, eq_self, true_or, or_true, px_av_0, px_av_1, px_av_2, px_av_10, px_av_11, bn, wi_1, wi_2, wl_1, wl_21, wl_22, wr_1, wr_21, wr_22, Sum.elim_inl, Sum.elim_inr, ↓reduceIte, Nat.reduceLT, Nat.reduceLeDiff, not_false_eq_true, not_true_eq_false, Nat.reduceEqDiff, Nat.reduceAdd, reduceCtorEq, and_true, true_and, and_false, false_and, false_or, or_false]
            rcases hsum hxl σ1 τ1 (k + 1) C m ts y3 (by omega) hts with ⟨σ2, τ2, z1, z2, k', C', m', z3, z4, z5⟩ | ⟨σ2, τ2, z1, z2, z3⟩
            · rcases j_pass hx z3 (c := 26) (by omega) (by omega) (by omega) (by omega) with ⟨-, σ3, τ3, w1, w2, w3⟩ | ⟨-, σ3, τ3, w1, w2, w3, w4⟩
              · refine Or.inl ⟨σ3, τ3, ?_, ?_, k' + 1, C', m', w3, by omega, by omega⟩
                · have w1' : f_9019 tT σ2 150 (nI 4041) = some (nI 1, σ3) := w1
                  unfold F_9032 f_9032_66
                  simp only [la_150, n1, n2, n10, p2, t25, a1, y1, nI_add, z1, w1', gd_tt, oA_arr, px_obj_s, Option.bind_some, Option.map_some, Option.bind_none, eq_self, true_or, or_true, px_av_0, px_av_1, px_av_2, px_av_10, px_av_11, bn, wi_1, wi_2, wl_1, wl_21, wl_22, wr_1, wr_21, wr_22, Sum.elim_inl, Sum.elim_inr, ↓reduceIte, Nat.reduceLT, Nat.reduceLeDiff, not_false_eq_true, not_true_eq_false, Nat.reduceEqDiff, Nat.reduceAdd, reduceCtorEq, and_true, true_and, and_false, false_and, false_or, or_false]
                · unfold F_21 f_21_42 f_21_88 f_21_106
                  simp only [la_0, i16, e0, p8, p6, wi, i25, n10, go, nI_add, z2, w2, gd_tt, oA_arr, px_obj_s, Option.bind_some, Option.map_some, Option.bind_none, eq_self, true_or, or_true, px_av_0, px_av_1, px_av_2, px_av_10, px_av_11, bn, wi_1, wi_2, wl_1, wl_21, wl_22, wr_1, wr_21, wr_22, Sum.elim_inl, Sum.elim_inr, ↓reduceIte, Nat.reduceLT, Nat.reduceLeDiff, not_false_eq_true, not_true_eq_false, Nat.reduceEqDiff, Nat.reduceAdd, reduceCtorEq, and_true, true_and, and_false, false_and, false_or, or_false]
              · refine Or.inr ⟨σ3, τ3, ?_, ?_, w4⟩
                · have w1' : f_9019 tT σ2 150 (nI 4041) = some (nI 0, σ3) := w1
                  unfold F_9032 f_9032_66 f_9032_90
                  simp only [la_150, n1, n2, n10, p2, t25, a1, y1, nI_add, z1, w1', gd_tt, oA_arr, px_obj_s, Option.bind_some, Option.map_some, Option.bind_none, eq_self, true_or, or_true, px_av_0, px_av_1, px_av_2, px_av_10, px_av_11, bn, wi_1, wi_2, wl_1, wl_21, wl_22, wr_1, wr_21, wr_22, Sum.elim_inl, Sum.elim_inr, ↓reduceIte, Nat.reduceLT, Nat.reduceLeDiff, not_false_eq_true, not_true_eq_false, Nat.reduceEqDiff, Nat.reduceAdd, reduceCtorEq, and_true, true_and, and_false, false_and, false_or, or_false]
                · unfold F_21 f_21_42 f_21_88 f_21_106 f_21_122
                  simp only [la_0, i16, e0, p8, p6, wi, i25, n10, go, nI_add, z2, w2, w3, gd_tt, oA_arr, px_obj_s, Option.bind_some, Option.map_some, Option.bind_none, eq_self, true_or, or_true, px_av_0, px_av_1, px_av_2, px_av_10, px_av_11, bn, wi_1, wi_2, wl_1, wl_21, wl_22, wr_1, wr_21, wr_22, Sum.elim_inl, Sum.elim_inr, ↓reduceIte, Nat.reduceLT, Nat.reduceLeDiff, not_false_eq_true, not_true_eq_false, Nat.reduceEqDiff, Nat.reduceAdd, reduceCtorEq, and_true, true_and, and_false, false_and, false_or, or_false]
            · obtain ⟨f, f0, f5, f1⟩ := ded_x z3
              refine Or.inr ⟨σ2, τ2, ?_, ?_, z3⟩
              · unfold F_9032 f_9032_66 f_9032_90
                simp only [la_150, n1, n2, n10, p2, t25, a1, y1, nI_add, z1, gd_tt, oA_arr, px_obj_s, Option.bind_some, Option.map_some, Option.bind_none, eq_self, true_or, or_true, px_av_0, px_av_1, px_av_2, px_av_10, px_av_11, bn, wi_1, wi_2, wl_1, wl_21, wl_22, wr_1, wr_21, wr_22, Sum.elim_inl, Sum.elim_inr, ↓reduceIte, Nat.reduceLT, Nat.reduceLeDiff, not_false_eq_true, not_true_eq_false, Nat.reduceEqDiff, Nat.reduceAdd, reduceCtorEq, and_true, true_and, and_false, false_and, false_or, or_false]
              · unfold F_21 f_21_42 f_21_88 f_21_106 f_21_122
                simp only [la_0, i16, e0, p8, p6, wi, i25, n10, go, nI_add, z2, z_eats f0 f5 f1, z_fails f0 f5 f1, gd_tt, oA_arr, px_obj_s, Option.bind_some, Option.map_some, Option.bind_none, eq_self, true_or, or_true, px_av_0, px_av_1, px_av_2, px_av_10, px_av_11, bn, wi_1, wi_2, wl_1, wl_21, wl_22, wr_1, wr_21, wr_22, Sum.elim_inl, Sum.elim_inr, ↓reduceIte, Nat.reduceLT, Nat.reduceLeDiff, not_false_eq_true, not_true_eq_false, Nat.reduceEqDiff, Nat.reduceAdd, reduceCtorEq, and_true, true_and, and_false, false_and, false_or, or_false]
          · have hx66 : x = 6 := by omega
            subst hx66
            have a1 : ¬ nI 6 < nI 6 := by decide
            obtain ⟨σ1, τ1, y1, y2, y3⟩ := j_blame hx h.1 (f := 4) (Or.inr ⟨Or.inr rfl, by omega⟩)
            obtain ⟨f, f0, f5, f1⟩ := ded_x y3
            have fa : ¬ nI f = nI 0 := by rw [nI_eq (by omega) (by omega)]; exact f0
            have go : f_20 tT τ 0 (nI 6) = some (nI 0, τ1) := by
              unfold f_20 f_20_22
              simp only [la_0, y2, f1, fa, gd_tt, oA_arr, px_obj_s, Option.bind_some, Option.map_some, Option.bind_none, eq_self, true_or, or_true, px_av_0, px_av_1, px_av_2, px_av_10, px_av_11, bn, wi_1, wi_2, wl_1, wl_21, wl_22, wr_1, wr_21, wr_22, Sum.elim_inl, Sum.elim_inr, ↓reduceIte, Nat.reduceLT, Nat.reduceLeDiff, not_false_eq_true, not_true_eq_false, Nat.reduceEqDiff, Nat.reduceAdd, reduceCtorEq, and_true, true_and, and_false, false_and, false_or, or_false]
            refine Or.inr ⟨σ1, τ1, ?_, ?_, y3⟩
            · unfold F_9032
              simp only [la_150, n1, n2, p2, t25, a1, y1, gd_tt, oA_arr, px_obj_s, Option.bind_some, Option.map_some, Option.bind_none, eq_self, true_or, or_true, px_av_0, px_av_1, px_av_2, px_av_10, px_av_11, bn, wi_1, wi_2, wl_1, wl_21, wl_22, wr_1, wr_21, wr_22, Sum.elim_inl, Sum.elim_inr, ↓reduceIte, Nat.reduceLT, Nat.reduceLeDiff, not_false_eq_true, not_true_eq_false, Nat.reduceEqDiff, Nat.reduceAdd, reduceCtorEq, and_true, true_and, and_false, false_and, false_or, or_false]
            · unfold F_21 f_21_42 f_21_88
              simp only [la_0, i16, e0, p8, p6, wi, i25, n10, go, gd_tt, oA_arr, px_obj_s, Option.bind_some, Option.map_some, Option.bind_none, eq_self, true_or, or_true, px_av_0, px_av_1, px_av_2, px_av_10, px_av_11, bn, wi_1, wi_2, wl_1, wl_21, wl_22, wr_1, wr_21, wr_22, Sum.elim_inl, Sum.elim_inr, ↓reduceIte, Nat.reduceLT, Nat.reduceLeDiff, not_false_eq_true, not_true_eq_false, Nat.reduceEqDiff, Nat.reduceAdd, reduceCtorEq, and_true, true_and, and_false, false_and, false_or, or_false]
        · have t25 : ¬ nI (tcd (κ k) (v k)) = nI 4040 := fun z => q25 ((tcd_eq hx hk (c := 25) (by omega) (by omega) (by omega)).mp z)
          rw [decide_eq_false q25, mb_f0] at i25
          obtain ⟨σ1, τ1, y1, y2, y3⟩ := j_blame hx h.1 (f := 2) (Or.inl rfl)
          refine Or.inr ⟨σ1, τ1, ?_, ?_, y3⟩
          · unfold F_9032
            simp only [la_150, n1, n2, p2, t25, y1, gd_tt, oA_arr, px_obj_s, Option.bind_some, Option.map_some, Option.bind_none, eq_self, true_or, or_true, px_av_0, px_av_1, px_av_2, px_av_10, px_av_11, bn, wi_1, wi_2, wl_1, wl_21, wl_22, wr_1, wr_21, wr_22, Sum.elim_inl, Sum.elim_inr, ↓reduceIte, Nat.reduceLT, Nat.reduceLeDiff, not_false_eq_true, not_true_eq_false, Nat.reduceEqDiff, Nat.reduceAdd, reduceCtorEq, and_true, true_and, and_false, false_and, false_or, or_false]
          · unfold F_21 f_21_42 f_21_88
            simp only [la_0, i16, e0, p8, p6, wi, i25, y2, gd_tt, oA_arr, px_obj_s, Option.bind_some, Option.map_some, Option.bind_none, eq_self, true_or, or_true, px_av_0, px_av_1, px_av_2, px_av_10, px_av_11, bn, wi_1, wi_2, wl_1, wl_21, wl_22, wr_1, wr_21, wr_22, Sum.elim_inl, Sum.elim_inr, ↓reduceIte, Nat.reduceLT, Nat.reduceLeDiff, not_false_eq_true, not_true_eq_false, Nat.reduceEqDiff, Nat.reduceAdd, reduceCtorEq, and_true, true_and, and_false, false_and, false_or, or_false]
end
