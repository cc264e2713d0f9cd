/-! two readers: comparisons, not, within brackets; rules -/
section
variable {σ0 τ0 σ τ : px_M} {b pl bh κ v : Nat → Nat} {e K k n nr m ln : Nat} {B S C : Nat → Nat} {ts us : List Bool}
theorem k_cmp (hx : cx σ0 τ0 b e K pl bh κ v) (h : pos σ0 τ0 K pl bh κ v σ τ k) : (29 ≤ κ k ∧ κ k ≤ 31 ∧ f_9029 tT σ (nI (tcd (κ k) (v k))) = some (nI (ctr (2974 + κ k)))) ∨ (¬ (29 ≤ κ k ∧ κ k ≤ 31) ∧ f_9029 tT σ (nI (tcd (κ k) (v k))) = some (-1)) := by
  have hk := h.2.1
  obtain ⟨q1, -, -, -, -, q6, q7, q8⟩ := cx_k hx hk
  have t1 : nI (tcd (κ k) (v k)) = nI 4061 ↔ κ k = 29 := tcd_eq hx hk (c := 29) (by omega) (by omega) (by omega)
  have t2 : nI (tcd (κ k) (v k)) = nI 4060 ↔ κ k = 30 := tcd_eq hx hk (c := 30) (by omega) (by omega) (by omega)
  have t3 : nI (tcd (κ k) (v k)) = nI 4062 ↔ κ k = 31 := tcd_eq hx hk (c := 31) (by omega) (by omega) (by omega)
  have z1 : ¬ nI 4061 = nI 4060 := by decide
  have z2 : ¬ nI 4062 = nI 4060 := by decide
  have z3 : ¬ nI 4062 = nI 4061 := by decide
  unfold f_9029
  by_cases a : κ k = 29
  · left
    refine ⟨by omega, by omega, ?_⟩
    rw [t1.mpr a, if_neg z1, if_pos rfl, a]; rfl
  · by_cases c : κ k = 30
    · left
      refine ⟨by omega, by omega, ?_⟩
      rw [t2.mpr c, if_pos rfl, c]; rfl
    · by_cases d : κ k = 31
      · left
        refine ⟨by omega, by omega, ?_⟩
        rw [t3.mpr d, if_neg z2, if_neg z3, if_pos rfl, d]; rfl
      · right
        refine ⟨by omega, ?_⟩
        rw [if_neg (mt t2.mp c), if_neg (mt t1.mp a), if_neg (mt t3.mp d)]
/-- the second half of a comparison -/
theorem j_cmp (hx : cx σ0 τ0 b e K pl bh κ v) (h6 : nr < 6) {x L : Nat} (hs : pce σ0 τ0 K pl bh κ v n B nr S ln (f_9030 tT 60) (f_23 tT 60) false x (L + 1)) {m1 m2 m3 : px_M → Nat → Int32 → Option px_M} : ∀ σ τ k C m ts, ex σ0 τ0 K pl bh κ v n B nr S ln σ τ k C m ts → m ≤ k → ts.length ≤ L → oc σ0 τ0 (f_9028 tT σ 150 (nI x)) ((f_23 tT 60 τ 0 (nI x)).bind fun q => f_24_78 tT m1 m2 m3 q 0 (nI x)) (psk σ0 τ0 K pl bh κ v n B nr S ln k m (true :: ts)) := by
  intro σ τ k C m ts h hm hts
  rcases hs σ τ k C m ts h hm (by omega) with ⟨σ1, τ1, y1, y2, k1, C1, n1, y3, y4, y5⟩ | ⟨σ1, τ1, y1, y2, y3⟩
  · have i1 := m_is hx y3.1 (c := 29) (by omega)
    have i2 := m_is hx y3.1 (c := 30) (by omega)
    have i3 := m_is hx y3.1 (c := 31) (by omega)
    have p2 := y3.1.2.2.1.2.1
    obtain ⟨r1, -, -, -, -, r6, r7, r8⟩ := cx_k hx y3.1.2.1
    rcases k_cmp hx y3.1 with ⟨c1, c2, c3⟩ | ⟨c1, c3⟩
    · have hkK := r6 (by omega)
      obtain ⟨σ2, τ2, z1, z2, z3, -⟩ := j_adv hx y3 (by omega)
      have g1 : ¬ nI (ctr (2974 + κ k1)) = -1 := by
        obtain e | e | e : κ k1 = 29 ∨ κ k1 = 30 ∨ κ k1 = 31 := by omega
        · rw [e]; decide
        · rw [e]; decide
        · rw [e]; decide
      have hmod : ∀ χ, f_24_78 tT m1 m2 m3 τ1 0 (nI x) = χ ↔ f_24_151 tT m1 m2 m3 τ2 0 (nI x) (nI (2974 + κ k1)) = χ := by
        intro χ
        have : f_24_78 tT m1 m2 m3 τ1 0 (nI x) = f_24_151 tT m1 m2 m3 τ2 0 (nI x) (nI (2974 + κ k1)) := by
          unfold f_24_78 f_24_112 f_24_139
          obtain e | e | e : κ k1 = 29 ∨ κ k1 = 30 ∨ κ k1 = 31 := by omega
          · rw [decide_eq_true e, mb_t1] at i1
            simp only [la_0, i1, n10, z2, e, gd_tt, oA_arr, px_obj_s, Option.bind_some, Option.map_some, Option.bind_none, eq_self, true_or, or_true, px_av_0, px_av_1, px_av_2, px_av_10, px_av_11, bn, wi_1, wi_2, wl_1, wl_21, wl_22, wr_1, wr_21, wr_22, Sum.elim_inl, Sum.elim_inr, ↓reduceIte, Nat.reduceLT, Nat.reduceLeDiff, not_false_eq_true, not_true_eq_false, Nat.reduceEqDiff, Nat.reduceAdd, reduceCtorEq, and_true, true_and, and_false, false_and, false_or, or_false]
          · rw [decide_eq_false (by omega), mb_f0] at i1
            rw [decide_eq_true e, mb_t1] at i2
            simp only [la_0, i1, i2, n10, z2, e, gd_tt, oA_arr, px_obj_s, Option.bind_some, Option.map_some, Option.bind_none, eq_self, true_or, or_true, px_av_0, px_av_1, px_av_2, px_av_10, px_av_11, bn, wi_1, wi_2, wl_1, wl_21, wl_22, wr_1, wr_21, wr_22, Sum.elim_inl, Sum.elim_inr, ↓reduceIte, Nat.reduceLT, Nat.reduceLeDiff, not_false_eq_true, not_true_eq_false, Nat.reduceEqDiff, Nat.reduceAdd, reduceCtorEq, and_true, true_and, and_false, false_and, false_or, or_false]
          · rw [decide_eq_false (by omega), mb_f0] at i1
            rw [decide_eq_false (by omega), mb_f0] at i2
            rw [decide_eq_true e, mb_t1] at i3
            simp only [la_0, i1, i2, i3, n10, z2, e, gd_tt, oA_arr, px_obj_s, Option.bind_some, Option.map_some, Option.bind_none, eq_self, true_or, or_true, px_av_0, px_av_1, px_av_2, px_av_10, px_av_11, bn, wi_1, wi_2, wl_1, wl_21, wl_22, wr_1, wr_21, wr_22, Sum.elim_inl, Sum.elim_inr, ↓reduceIte, Nat.reduceLT, Nat.reduceLeDiff, not_false_eq_true, not_true_eq_false, Nat.reduceEqDiff, Nat.reduceAdd, reduceCtorEq, and_true, true_and, and_false, false_and, false_or, or_false]
        rw [this]
      rcases hs σ2 τ2 (k1 + 1) C1 n1 (false :: ts) z3 (by omega) (by rw [List.length_cons]; omega) with ⟨σ3, τ3, w1, w2, k3, C3, n3, w3, w4, w5⟩ | ⟨σ3, τ3, w1, w2, w3⟩
      · obtain ⟨l1, -⟩ := w3.1.2
        obtain ⟨σ4, τ4, u1, u2, u3⟩ := j_code hx w3 h6 (c := 2974 + κ k1) (us := true :: ts) (Or.inr (Or.inr ⟨by omega, by omega, false, false, true, ts, rfl, rfl, fun _ => (by omega), fun q => (by omega)⟩)) (by omega)
        obtain ⟨hR, -⟩ := cx_c hx w3.1.1.1
        refine Or.inl ⟨σ4, τ4, ?_, ?_, k3, _, n3 + 1, u3, by omega, by omega⟩
        · unfold f_9028 f_9028_33
          simp only [la_150, la_140, la_143, y1, n10, p2, c3, g1, z1, w1, rc_150_3 hR, rc_140_1 hR, u1, gd_tt, oA_arr, px_obj_s, Option.bind_some, Option.map_some, Option.bind_none, eq_self, true_or, or_true, px_av_0, px_av_1, px_av_2, px_av_10, px_av_11, bn, wi_1, wi_2, wl_1, wl_21, wl_22, wr_1, wr_21, wr_22, Sum.elim_inl, Sum.elim_inr, ↓reduceIte, Nat.reduceLT, Nat.reduceLeDiff, not_false_eq_true, not_true_eq_false, Nat.reduceEqDiff, Nat.reduceAdd, reduceCtorEq, and_true, true_and, and_false, false_and, false_or, or_false]
        · rw [y2, Option.bind_some, hmod]
          unfold f_24_151
          simp only [la_0, w2, u2, gd_tt, oA_arr, px_obj_s, Option.bind_some, Option.map_some, Option.bind_none, eq_self, true_or, or_true, px_av_0, px_av_1, px_av_2, px_av_10, px_av_11, bn, wi_1, wi_2, wl_1, wl_21, wl_22, wr_1, wr_21, wr_22, Sum.elim_inl, Sum.elim_inr, ↓reduceIte, Nat.reduceLT, Nat.reduceLeDiff, not_false_eq_true, not_true_eq_false, Nat.reduceEqDiff, Nat.reduceAdd, reduceCtorEq, and_true, true_and, and_false, false_and, false_or, or_false]
      · obtain ⟨f, f0, f5, f1⟩ := ded_x w3
        refine Or.inr ⟨σ3, τ3, ?_, ?_, w3⟩
        · unfold f_9028 f_9028_33
          simp only [la_150, y1, n10, p2, c3, g1, z1, w1, gd_tt, oA_arr, px_obj_s, Option.bind_some, Option.map_some, Option.bind_none, eq_self, true_or, or_true, px_av_0, px_av_1, px_av_2, px_av_10, px_av_11, bn, wi_1, wi_2, wl_1, wl_21, wl_22, wr_1, wr_21, wr_22, Sum.elim_inl, Sum.elim_inr, ↓reduceIte, Nat.reduceLT, Nat.reduceLeDiff, not_false_eq_true, not_true_eq_false, Nat.reduceEqDiff, Nat.reduceAdd, reduceCtorEq, and_true, true_and, and_false, false_and, false_or, or_false]
        · rw [y2, Option.bind_some, hmod]
          unfold f_24_151
          simp only [la_0, w2, z_codes f0 f5 f1, gd_tt, oA_arr, px_obj_s, Option.bind_some, Option.map_some, Option.bind_none, eq_self, true_or, or_true, px_av_0, px_av_1, px_av_2, px_av_10, px_av_11, bn, wi_1, wi_2, wl_1, wl_21, wl_22, wr_1, wr_21, wr_22, Sum.elim_inl, Sum.elim_inr, ↓reduceIte, Nat.reduceLT, Nat.reduceLeDiff, not_false_eq_true, not_true_eq_false, Nat.reduceEqDiff, Nat.reduceAdd, reduceCtorEq, and_true, true_and, and_false, false_and, false_or, or_false]
    · obtain ⟨σ2, τ2, z1, z2, z3⟩ := j_blame hx y3.1 (f := 2) (Or.inl rfl)
      obtain ⟨f, f0, f5, f1⟩ := ded_x z3
      refine Or.inr ⟨σ2, τ2, ?_, ?_, z3⟩
      · unfold f_9028
        simp only [la_150, y1, n10, p2, c3, z1, gd_tt, oA_arr, px_obj_s, Option.bind_some, Option.map_some, Option.bind_none, eq_self, true_or, or_true, px_av_0, px_av_1, px_av_2, px_av_10, px_av_11, bn, wi_1, wi_2, wl_1, wl_21, wl_22, wr_1, wr_21, wr_22, Sum.elim_inl, Sum.elim_inr, ↓reduceIte, Nat.reduceLT, Nat.reduceLeDiff, not_false_eq_true, not_true_eq_false, Nat.reduceEqDiff, Nat.reduceAdd, reduceCtorEq, and_true, true_and, and_false, false_and, false_or, or_false]
      · rw [decide_eq_false (by omega), mb_f0] at i1 i2 i3
        rw [y2, Option.bind_some]
        unfold f_24_78 f_24_112 f_24_146 f_24_151
        simp only [la_0, i1, i2, i3, z2, z_sum (d := 57) f0 f5 f1, z_codes f0 f5 f1, gd_tt, oA_arr, px_obj_s, Option.bind_some, Option.map_some, Option.bind_none, eq_self, true_or, or_true, px_av_0, px_av_1, px_av_2, px_av_10, px_av_11, bn, wi_1, wi_2, wl_1, wl_21, wl_22, wr_1, wr_21, wr_22, Sum.elim_inl, Sum.elim_inr, ↓reduceIte, Nat.reduceLT, Nat.reduceLeDiff, not_false_eq_true, not_true_eq_false, Nat.reduceEqDiff, Nat.reduceAdd, reduceCtorEq, and_true, true_and, and_false, false_and, false_or, or_false]
  · obtain ⟨f, f0, f5, f1⟩ := ded_x y3
    refine Or.inr ⟨σ1, τ1, ?_, ?_, y3⟩
    · unfold f_9028
      simp only [la_150, y1, gd_tt, oA_arr, px_obj_s, Option.bind_some, Option.map_some, Option.bind_none, eq_self, true_or, or_true, px_av_0, px_av_1, px_av_2, px_av_10, px_av_11, bn, wi_1, wi_2, wl_1, wl_21, wl_22, wr_1, wr_21, wr_22, Sum.elim_inl, Sum.elim_inr, ↓reduceIte, Nat.reduceLT, Nat.reduceLeDiff, not_false_eq_true, not_true_eq_false, Nat.reduceEqDiff, Nat.reduceAdd, reduceCtorEq, and_true, true_and, and_false, false_and, false_or, or_false]
    · rw [y2, Option.bind_some]
      unfold f_24_78 f_24_112 f_24_146 f_24_151
      simp only [la_0, z_is f0 f5 f1, z_fails f0 f5 f1, z_sum (d := 57) f0 f5 f1, z_codes f0 f5 f1, gd_tt, oA_arr, px_obj_s, Option.bind_some, Option.map_some, Option.bind_none, eq_self, true_or, or_true, px_av_0, px_av_1, px_av_2, px_av_10, px_av_11, bn, wi_1, wi_2, wl_1, wl_21, wl_22, wr_1, wr_21, wr_22, Sum.elim_inl, Sum.elim_inr, ↓reduceIte, Nat.reduceLT, Nat.reduceLeDiff, not_false_eq_true, not_true_eq_false, Nat.reduceEqDiff, Nat.reduceAdd, reduceCtorEq, and_true, true_and, and_false, false_and, false_or, or_false]
theorem j_unit (hx : cx σ0 τ0 b e K pl bh κ v) (h6 : nr < 6) {x L : Nat} (hx6 : x ≤ 6) (hs : pce σ0 τ0 K pl bh κ v n B nr S ln (f_9030 tT 60) (f_23 tT 60) false x (L + 1)) {c1 c2 c3 : px_M → Nat → Int32 → Option (Int32 × px_M)} {m1 m2 m3 : px_M → Nat → Int32 → Option px_M} (hu : x < 6 → pce σ0 τ0 K pl bh κ v n B nr S ln c3 m1 true (x + 1) L) (ht : x < 6 → pce σ0 τ0 K pl bh κ v n B nr S ln c1 m3 true (x + 1) L) : pce σ0 τ0 K pl bh κ v n B nr S ln (F_9027 tT c1 c2 c3) (F_24 tT m1 m2 m3) true x L := by
  intro σ τ k C m ts h hm hts
  have hk := h.1.2.1
  obtain ⟨k1, k2, k3, k4, k5, k6, k7, k8⟩ := cx_k hx hk
  have p2 := h.1.2.2.1.2.1
  have p8 := h.1.2.2.2.2.2.2.2
  have t1 : nI (tcd (κ k) (v k)) = nI 2006 ↔ κ k = 6 := tcd_eq hx hk (c := 6) (by omega) (by omega) (by omega)
  have t2 : nI (tcd (κ k) (v k)) = nI 4091 ↔ κ k = 27 := tcd_eq hx hk (c := 27) (by omega) (by omega) (by omega)
  have i1 := m_is hx h.1 (c := 6) (by omega)
  have i2 := m_is hx h.1 (c := 27) (by omega)
  have n1' : ¬ nI 1 = nI 0 := by decide
  have z91 : ¬ nI 4091 = nI 2006 := by decide
  have go : κ k ≠ 17 → x < 6 → ∃ σ1 τ1, f_9015 tT σ 150 = some σ1 ∧ f_20 tT τ 0 (nI x) = some (nI 1, τ1) ∧ ex σ0 τ0 K pl bh κ v n B nr S ln σ1 τ1 (k + 1) C m ts := by
    intro h17 hxl
    have a2 : ¬ nI x = nI 6 := by rw [nI_eq (by omega) (by omega)]; omega
    obtain ⟨σ1, τ1, y1, y2, y3, -⟩ := j_adv hx h h17
    have p81 := y3.1.2.2.2.2.2.2.2
    refine ⟨σ1, τ1, y1, ?_, y3⟩
    unfold f_20 f_20_22
    simp only [la_0, a2, p8, y2, p81, gd_tt, oA_arr, px_obj_s, Option.bind_some, Option.map_some, Option.bind_none, eq_self, true_or, or_true, px_av_0, px_av_1, px_av_2, px_av_10, px_av_11, bn, wi_1, wi_2, wl_1, wl_21, wl_22, wr_1, wr_21, wr_22, Sum.elim_inl, Sum.elim_inr, ↓reduceIte, Nat.reduceLT, Nat.reduceLeDiff, not_false_eq_true, not_true_eq_false, Nat.reduceEqDiff, Nat.reduceAdd, reduceCtorEq, and_true, true_and, and_false, false_and, false_or, or_false]
  have no : κ k ≠ 18 → x = 6 → ∃ σ1 τ1, f_9018 tT σ 150 (nI 4) = some (nI 0, σ1) ∧ f_20 tT τ 0 (nI x) = some (nI 0, τ1) ∧ ded σ0 τ0 σ1 τ1 := by
    intro h18 hxl
    obtain ⟨σ1, τ1, y1, y2, y3⟩ := j_blame hx h.1 (f := 4) (Or.inr ⟨Or.inr rfl, h18⟩)
    obtain ⟨f, f0, f5, f1⟩ := ded_x y3
    have fa : ¬ nI f = nI 0 := by rw [nI_eq (by omega) (by omega)]; exact f0
    refine ⟨σ1, τ1, y1, ?_, y3⟩
    unfold f_20 f_20_22
    rw [hxl]
    simp only [la_0, y2, f1, fa, gd_tt, oA_arr, px_obj_s, Option.bind_some, Option.map_some, Option.bind_none, eq_self, true_or, or_true, px_av_0, px_av_1, px_av_2, px_av_10, px_av_11, bn, wi_1, wi_2, wl_1, wl_21, wl_22, wr_1, wr_21, wr_22, Sum.elim_inl, Sum.elim_inr, ↓reduceIte, Nat.reduceLT, Nat.reduceLeDiff, not_false_eq_true, not_true_eq_false, Nat.reduceEqDiff, Nat.reduceAdd, reduceCtorEq, and_true, true_and, and_false, false_and, false_or, or_false]
  by_cases q6 : κ k = 6
  · have a1 := t1.mpr q6
    rw [decide_eq_true q6, mb_t1] at i1
    by_cases hxl : x < 6
    · have b1 : nI x < nI 6 := by rw [nI_ltI (by omega) (by omega)]; exact hxl
      obtain ⟨σ1, τ1, y1, y2, y3⟩ := go (by omega) hxl
      have hkK := k6 (by omega)
      rcases hu hxl σ1 τ1 (k + 1) C m ts y3 (by omega) hts with ⟨σ2, τ2, z1, z2, k', C', m', z3, z4, z5⟩ | ⟨σ2, τ2, z1, z2, z3⟩
      · obtain ⟨l1, -⟩ := z3.1.2
        obtain ⟨σ4, τ4, u1, u2, u3⟩ := j_code hx z3 h6 (c := 3008) (us := true :: ts) (Or.inr (Or.inl ⟨rfl, ts, rfl, rfl⟩)) (by omega)
        have u1' : f_10004 tT σ2 143 (nI 2006) = some σ4 := u1
        obtain ⟨hR, -⟩ := cx_c hx z3.1.1.1
        refine Or.inl ⟨σ4, τ4, ?_, ?_, k', _, m' + 1, u3, by omega, by omega⟩
        · unfold F_9027 f_9027_36 f_9027_107
          simp only [la_150, la_140, la_143, p2, a1, b1, y1, n1', n10, nI_add, z1, rc_150_3 hR, rc_140_1 hR, u1', gd_tt, oA_arr, px_obj_s, Option.bind_some, Option.map_some, Option.bind_none, eq_self, true_or, or_true, px_av_0, px_av_1, px_av_2, px_av_10, px_av_11, bn, wi_1, wi_2, wl_1, wl_21, wl_22, wr_1, wr_21, wr_22, Sum.elim_inl, Sum.elim_inr, ↓reduceIte, Nat.reduceLT, Nat.reduceLeDiff, not_false_eq_true, not_true_eq_false, Nat.reduceEqDiff, Nat.reduceAdd, reduceCtorEq, and_true, true_and, and_false, false_and, false_or, or_false]
        · unfold F_24 f_24_25
          simp only [la_0, i1, n10, y2, nI_add, z2, u2, gd_tt, oA_arr, px_obj_s, Option.bind_some, Option.map_some, Option.bind_none, eq_self, true_or, or_true, px_av_0, px_av_1, px_av_2, px_av_10, px_av_11, bn, wi_1, wi_2, wl_1, wl_21, wl_22, wr_1, wr_21, wr_22, Sum.elim_inl, Sum.elim_inr, ↓reduceIte, Nat.reduceLT, Nat.reduceLeDiff, not_false_eq_true, not_true_eq_false, Nat.reduceEqDiff, Nat.reduceAdd, reduceCtorEq, and_true, true_and, and_false, false_and, false_or, or_false]
      · obtain ⟨f, f0, f5, f1⟩ := ded_x z3
        refine Or.inr ⟨σ2, τ2, ?_, ?_, z3⟩
        · unfold F_9027 f_9027_36
          simp only [la_150, p2, a1, b1, y1, n1', nI_add, z1, gd_tt, oA_arr, px_obj_s, Option.bind_some, Option.map_some, Option.bind_none, eq_self, true_or, or_true, px_av_0, px_av_1, px_av_2, px_av_10, px_av_11, bn, wi_1, wi_2, wl_1, wl_21, wl_22, wr_1, wr_21, wr_22, Sum.elim_inl, Sum.elim_inr, ↓reduceIte, Nat.reduceLT, Nat.reduceLeDiff, not_false_eq_true, not_true_eq_false, Nat.reduceEqDiff, Nat.reduceAdd, reduceCtorEq, and_true, true_and, and_false, false_and, false_or, or_false]
        · unfold F_24 f_24_25
          simp only [la_0, i1, n10, y2, nI_add, z2, z_codes f0 f5 f1, gd_tt, oA_arr, px_obj_s, Option.bind_some, Option.map_some, Option.bind_none, eq_self, true_or, or_true, px_av_0, px_av_1, px_av_2, px_av_10, px_av_11, bn, wi_1, wi_2, wl_1, wl_21, wl_22, wr_1, wr_21, wr_22, Sum.elim_inl, Sum.elim_inr, ↓reduceIte, Nat.reduceLT, Nat.reduceLeDiff, not_false_eq_true, not_true_eq_false, Nat.reduceEqDiff, Nat.reduceAdd, reduceCtorEq, and_true, true_and, and_false, false_and, false_or, or_false]
    · have b1 : ¬ nI x < nI 6 := by rw [nI_ltI (by omega) (by omega)]; exact hxl
      obtain ⟨σ1, τ1, y1, y2, y3⟩ := no (by omega) (by omega)
      refine Or.inr ⟨σ1, τ1, ?_, ?_, y3⟩
      · unfold F_9027 f_9027_36
        simp only [la_150, p2, a1, b1, y1, gd_tt, oA_arr, px_obj_s, Option.bind_some, Option.map_some, Option.bind_none, eq_self, true_or, or_true, px_av_0, px_av_1, px_av_2, px_av_10, px_av_11, bn, wi_1, wi_2, wl_1, wl_21, wl_22, wr_1, wr_21, wr_22, Sum.elim_inl, Sum.elim_inr, ↓reduceIte, Nat.reduceLT, Nat.reduceLeDiff, not_false_eq_true, not_true_eq_false, Nat.reduceEqDiff, Nat.reduceAdd, reduceCtorEq, and_true, true_and, and_false, false_and, false_or, or_false]
      · unfold F_24
        simp only [la_0, i1, n10, y2, gd_tt, oA_arr, px_obj_s, Option.bind_some, Option.map_some, Option.bind_none, eq_self, true_or, or_true, px_av_0, px_av_1, px_av_2, px_av_10, px_av_11, bn, wi_1, wi_2, wl_1, wl_21, wl_22, wr_1, wr_21, wr_22, Sum.elim_inl, Sum.elim_inr, ↓reduceIte, Nat.reduceLT, Nat.reduceLeDiff, not_false_eq_true, not_true_eq_false, Nat.reduceEqDiff, Nat.reduceAdd, reduceCtorEq, and_true, true_and, and_false, false_and, false_or, or_false]
  · have a1 := mt t1.mp q6
    rw [decide_eq_false q6, mb_f0] at i1
    by_cases q27 : κ k = 27
    · have a2 := t2.mpr q27
      rw [a2] at p2
      rw [decide_eq_true q27, mb_t1] at i2
      by_cases hxl : x < 6
      · have b1 : nI x < nI 6 := by rw [nI_ltI (by omega) (by omega)]; exact hxl
        obtain ⟨σ1, τ1, y1, y2, y3⟩ := go (by omega) hxl
        have hkK := k6 (by omega)
        rcases ht hxl σ1 τ1 (k + 1) C m ts y3 (by omega) hts with ⟨σ2, τ2, z1, z2, k', C', m', z3, z4, z5⟩ | ⟨σ2, τ2, z1, z2, z3⟩
        · rcases j_pass hx z3 (c := 28) (by omega) (by omega) (by omega) (by omega) with ⟨-, σ3, τ3, w1, w2, w3⟩ | ⟨-, σ3, τ3, w1, w2, w3, w4⟩
          · have w1' : f_9019 tT σ2 150 (nI 4093) = some (nI 1, σ3) := w1
            refine Or.inl ⟨σ3, τ3, ?_, ?_, k' + 1, C', m', w3, by omega, by omega⟩
            · unfold F_9027 f_9027_36 f_9027_76
              simp only [la_150, p2, z91, b1, y1, n10, nI_add, z1, w1', gd_tt, oA_arr, px_obj_s, Option.bind_some, Option.map_some, Option.bind_none, eq_self, true_or, or_true, px_av_0, px_av_1, px_av_2, px_av_10, px_av_11, bn, wi_1, wi_2, wl_1, wl_21, wl_22, wr_1, wr_21, wr_22, Sum.elim_inl, Sum.elim_inr, ↓reduceIte, Nat.reduceLT, Nat.reduceLeDiff, not_false_eq_true, not_true_eq_false, Nat.reduceEqDiff, Nat.reduceAdd, reduceCtorEq, and_true, true_and, and_false, false_and, false_or, or_false]
            · unfold F_24 f_24_51
              simp only [la_0, i1, i2, n10, y2, nI_add, z2, w2, gd_tt, oA_arr, px_obj_s, Option.bind_some, Option.map_some, Option.bind_none, eq_self, true_or, or_true, px_av_0, px_av_1, px_av_2, px_av_10, px_av_11, bn, wi_1, wi_2, wl_1, wl_21, wl_22, wr_1, wr_21, wr_22, Sum.elim_inl, Sum.elim_inr, ↓reduceIte, Nat.reduceLT, Nat.reduceLeDiff, not_false_eq_true, not_true_eq_false, Nat.reduceEqDiff, Nat.reduceAdd, reduceCtorEq, and_true, true_and, and_false, false_and, false_or, or_false]
          · have w1' : f_9019 tT σ2 150 (nI 4093) = some (nI 0, σ3) := w1
            refine Or.inr ⟨σ3, τ3, ?_, ?_, w4⟩
            · unfold F_9027 f_9027_36 f_9027_80
              simp only [la_150, p2, z91, b1, y1, n10, nI_add, z1, w1', gd_tt, oA_arr, px_obj_s, Option.bind_some, Option.map_some, Option.bind_none, eq_self, true_or, or_true, px_av_0, px_av_1, px_av_2, px_av_10, px_av_11, bn, wi_1, wi_2, wl_1, wl_21, wl_22, wr_1, wr_21, wr_22, Sum.elim_inl, Sum.elim_inr, ↓reduceIte, Nat.reduceLT, Nat.reduceLeDiff, not_false_eq_true, not_true_eq_false, Nat.reduceEqDiff, Nat.reduceAdd, reduceCtorEq, and_true, true_and, and_false, false_and, false_or, or_false]
            · unfold F_24 f_24_51
              simp only [la_0, i1, i2, n10, y2, nI_add, z2, w2, w3, gd_tt, oA_arr, px_obj_s, Option.bind_some, Option.map_some, Option.bind_none, eq_self, true_or, or_true, px_av_0, px_av_1, px_av_2, px_av_10, px_av_11, bn, wi_1, wi_2, wl_1, wl_21, wl_22, wr_1, wr_21, wr_22, Sum.elim_inl, Sum.elim_inr, ↓reduceIte, Nat.reduceLT, Nat.reduceLeDiff, not_false_eq_true, not_true_eq_false, Nat.reduceEqDiff, Nat.reduceAdd, reduceCtorEq, and_true, true_and, and_false, false_and, false_or, or_false]
        · obtain ⟨f, f0, f5, f1⟩ := ded_x z3
          refine Or.inr ⟨σ2, τ2, ?_, ?_, z3⟩
          · unfold F_9027 f_9027_36 f_9027_80
            simp only [la_150, p2, z91, b1, y1, nI_add, z1, gd_tt, oA_arr, px_obj_s, Option.bind_some, Option.map_some, Option.bind_none, eq_self, true_or, or_true, px_av_0, px_av_1, px_av_2, px_av_10, px_av_11, bn, wi_1, wi_2, wl_1, wl_21, wl_22, wr_1, wr_21, wr_22, Sum.elim_inl, Sum.elim_inr, ↓reduceIte, Nat.reduceLT, Nat.reduceLeDiff, not_false_eq_true, not_true_eq_false, Nat.reduceEqDiff, Nat.reduceAdd, reduceCtorEq, and_true, true_and, and_false, false_and, false_or, or_false]
          · unfold F_24 f_24_51
            simp only [la_0, i1, i2, n10, y2, nI_add, z2, z_eats f0 f5 f1, z_fails f0 f5 f1, gd_tt, oA_arr, px_obj_s, Option.bind_some, Option.map_some, Option.bind_none, eq_self, true_or, or_true, px_av_0, px_av_1, px_av_2, px_av_10, px_av_11, bn, wi_1, wi_2, wl_1, wl_21, wl_22, wr_1, wr_21, wr_22, Sum.elim_inl, Sum.elim_inr, ↓reduceIte, Nat.reduceLT, Nat.reduceLeDiff, not_false_eq_true, not_true_eq_false, Nat.reduceEqDiff, Nat.reduceAdd, reduceCtorEq, and_true, true_and, and_false, false_and, false_or, or_false]
      · have b1 : ¬ nI x < nI 6 := by rw [nI_ltI (by omega) (by omega)]; exact hxl
        obtain ⟨σ1, τ1, y1, y2, y3⟩ := no (by omega) (by omega)
        refine Or.inr ⟨σ1, τ1, ?_, ?_, y3⟩
        · unfold F_9027 f_9027_36
          simp only [la_150, p2, z91, b1, y1, gd_tt, oA_arr, px_obj_s, Option.bind_some, Option.map_some, Option.bind_none, eq_self, true_or, or_true, px_av_0, px_av_1, px_av_2, px_av_10, px_av_11, bn, wi_1, wi_2, wl_1, wl_21, wl_22, wr_1, wr_21, wr_22, Sum.elim_inl, Sum.elim_inr, ↓reduceIte, Nat.reduceLT, Nat.reduceLeDiff, not_false_eq_true, not_true_eq_false, Nat.reduceEqDiff, Nat.reduceAdd, reduceCtorEq, and_true, true_and, and_false, false_and, false_or, or_false]
        · unfold F_24
          simp only [la_0, i1, i2, n10, y2, gd_tt, oA_arr, px_obj_s, Option.bind_some, Option.map_some, Option.bind_none, eq_self, true_or, or_true, px_av_0, px_av_1, px_av_2, px_av_10, px_av_11, bn, wi_1, wi_2, wl_1, wl_21, wl_22, wr_1, wr_21, wr_22, Sum.elim_inl, Sum.elim_inr, ↓reduceIte, Nat.reduceLT, Nat.reduceLeDiff, not_false_eq_true, not_true_eq_false, Nat.reduceEqDiff, Nat.reduceAdd, reduceCtorEq, and_true, true_and, and_false, false_and, false_or, or_false]
    · have a2 := mt t2.mp q27
      rw [decide_eq_false q27, mb_f0] at i2
      rcases j_cmp hx h6 hs (m1 := m1) (m2 := m2) (m3 := m3) σ τ k C m ts h hm hts with ⟨σ1, τ1, y1, y2, y3⟩ | ⟨σ1, τ1, y1, y2, y3⟩
      · refine Or.inl ⟨σ1, τ1, ?_, ?_, y3⟩
        · unfold F_9027
          simp only [la_150, p2, a1, a2, y1, gd_tt, oA_arr, px_obj_s, Option.bind_some, Option.map_some, Option.bind_none, eq_self, true_or, or_true, px_av_0, px_av_1, px_av_2, px_av_10, px_av_11, bn, wi_1, wi_2, wl_1, wl_21, wl_22, wr_1, wr_21, wr_22, Sum.elim_inl, Sum.elim_inr, ↓reduceIte, Nat.reduceLT, Nat.reduceLeDiff, not_false_eq_true, not_true_eq_false, Nat.reduceEqDiff, Nat.reduceAdd, reduceCtorEq, and_true, true_and, and_false, false_and, false_or, or_false]
        · unfold F_24
          simp only [la_0, i1, i2, gd_tt, oA_arr, px_obj_s, Option.bind_some, Option.map_some, Option.bind_none, eq_self, true_or, or_true, px_av_0, px_av_1, px_av_2, px_av_10, px_av_11, bn, wi_1, wi_2, wl_1, wl_21, wl_22, wr_1, wr_21, wr_22, Sum.elim_inl, Sum.elim_inr, ↓reduceIte, Nat.reduceLT, Nat.reduceLeDiff, not_false_eq_true, not_true_eq_false, Nat.reduceEqDiff, Nat.reduceAdd, reduceCtorEq, and_true, true_and, and_false, false_and, false_or, or_false]
          exact y2
      · refine Or.inr ⟨σ1, τ1, ?_, ?_, y3⟩
        · unfold F_9027
          simp only [la_150, p2, a1, a2, y1, gd_tt, oA_arr, px_obj_s, Option.bind_some, Option.map_some, Option.bind_none, eq_self, true_or, or_true, px_av_0, px_av_1, px_av_2, px_av_10, px_av_11, bn, wi_1, wi_2, wl_1, wl_21, wl_22, wr_1, wr_21, wr_22, Sum.elim_inl, Sum.elim_inr, ↓reduceIte, Nat.reduceLT, Nat.reduceLeDiff, not_false_eq_true, not_true_eq_false, Nat.reduceEqDiff, Nat.reduceAdd, reduceCtorEq, and_true, true_and, and_false, false_and, false_or, or_false]
        · unfold F_24
          simp only [la_0, i1, i2, gd_tt, oA_arr, px_obj_s, Option.bind_some, Option.map_some, Option.bind_none, eq_self, true_or, or_true, px_av_0, px_av_1, px_av_2, px_av_10, px_av_11, bn, wi_1, wi_2, wl_1, wl_21, wl_22, wr_1, wr_21, wr_22, Sum.elim_inl, Sum.elim_inr, ↓reduceIte, Nat.reduceLT, Nat.reduceLeDiff, not_false_eq_true, not_true_eq_false, Nat.reduceEqDiff, Nat.reduceAdd, reduceCtorEq, and_true, true_and, and_false, false_and, false_or, or_false]
          exact y2
/-- truths at any depth -/
theorem j_truths (hx : cx σ0 τ0 b e K pl bh κ v) (h6 : nr < 6) : ∀ y x, x + y = 6 → ∀ d1 d2, 3 * y + 3 ≤ d1 → 3 * y + 3 ≤ d2 → pce σ0 τ0 K pl bh κ v n B nr S ln (f_9025 tT d1) (f_26 tT d2) true x (38 + 2 * x) ∧ pce σ0 τ0 K pl bh κ v n B nr S ln (f_9027 tT (d1 - 2)) (f_24 tT (d2 - 2)) true x (40 + 2 * x) := by
  intro y
  have hsum : ∀ x, x ≤ 6 → pce σ0 τ0 K pl bh κ v n B nr S ln (f_9030 tT 60) (f_23 tT 60) false x (40 + 2 * x + 1) := fun x hx6 => pce_le (j_sums hx h6 (6 - x) x (by omega) 60 60 (by omega) (by omega)) (by omega)
  have up : ∀ x d1 d2, pce σ0 τ0 K pl bh κ v n B nr S ln (f_9027 tT (d1 + 1)) (f_24 tT (d2 + 1)) true x (40 + 2 * x) → pce σ0 τ0 K pl bh κ v n B nr S ln (f_9025 tT (d1 + 3)) (f_26 tT (d2 + 3)) true x (38 + 2 * x) := by
    intro x d1 d2 h
    rw [f_9025_S, f_26_S]
    refine j_truth hx h6 ?_
    rw [f_9026_S, f_25_S]
    exact j_both hx h6 (pce_le h (by omega))
  induction y with
  | zero =>
    intro x hxy d1 d2 h1 h2
    obtain ⟨d1, rfl⟩ : ∃ d, d1 = d + 3 := ⟨d1 - 3, by omega⟩
    obtain ⟨d2, rfl⟩ : ∃ d, d2 = d + 3 := ⟨d2 - 3, by omega⟩
    have hu : pce σ0 τ0 K pl bh κ v n B nr S ln (f_9027 tT (d1 + 1)) (f_24 tT (d2 + 1)) true x (40 + 2 * x) := by
      rw [f_9027_S, f_24_S]
      exact j_unit hx h6 (by omega) (hsum x (by omega)) (fun h => by omega) (fun h => by omega)
    exact ⟨up x d1 d2 hu, hu⟩
  | succ y ih =>
    intro x hxy d1 d2 h1 h2
    obtain ⟨d1, rfl⟩ : ∃ d, d1 = d + 5 := ⟨d1 - 5, by omega⟩
    obtain ⟨d2, rfl⟩ : ∃ d, d2 = d + 5 := ⟨d2 - 5, by omega⟩
    have hu : pce σ0 τ0 K pl bh κ v n B nr S ln (f_9027 tT (d1 + 2 + 1)) (f_24 tT (d2 + 2 + 1)) true x (40 + 2 * x) := by
      rw [f_9027_S, f_24_S]
      refine j_unit hx h6 (by omega) (hsum x (by omega)) (fun h => ?_) (fun h => ?_)
      · exact pce_le (ih (x + 1) (by omega) (d1 + 4) (d2 + 4) (by omega) (by omega)).2 (by omega)
      · exact pce_le (ih (x + 1) (by omega) (d1 + 2) (d2 + 2) (by omega) (by omega)).1 (by omega)
    exact ⟨up x (d1 + 2) (d2 + 2) hu, hu⟩
end
