/-! two readers: terms, sums, truths -/
section
variable {σ0 τ0 σ τ : px_M} {b pl bh κ v : Nat → Nat} {e K k n nr m ln : Nat} {B S C : Nat → Nat} {ts us : List Bool}
theorem pce_le {fc : px_M → Nat → Int32 → Option (Int32 × px_M)} {fm : px_M → Nat → Int32 → Option px_M} {z : Bool} {x L L' : Nat} (h : pce σ0 τ0 K pl bh κ v n B nr S ln fc fm z x L) (hL : L' ≤ L) : pce σ0 τ0 K pl bh κ v n B nr S ln fc fm z x L' := fun σ τ k C m ts h1 h2 h3 => h σ τ k C m ts h1 h2 (by omega)
theorem j_term (hx : cx σ0 τ0 b e K pl bh κ v) (h6 : nr < 6) {x L : Nat} {c1 c2 c3 : px_M → Nat → Int32 → Option (Int32 × px_M)} {m1 m2 m3 : px_M → Nat → Int32 → Option px_M} (hop : pce σ0 τ0 K pl bh κ v n B nr S ln c3 m1 false x (L + 1)) : pce σ0 τ0 K pl bh κ v n B nr S ln (F_9031 tT c1 c2 c3) (F_22 tT m1 m2 m3) false x L := by
  have hdz : ∀ σ τ, ded σ0 τ0 σ τ → F_22_5 tT m1 m2 m3 0 (nI x) τ = some (.inr τ) := fun σ τ h => by
    obtain ⟨f, f0, f5, f1⟩ := ded_x h
    unfold F_22_5
    simp only [la_0, z_eats f0 f5 f1, gd_tt, oA_arr, px_obj_s, Option.bind_some, Option.map_some, Option.bind_none, eq_self, true_or, or_true, px_av_0, px_av_1, px_av_2, px_av_10, px_av_11, bn, wi_1, wi_2, wl_1, wl_21, wl_22, wr_1, wr_21, wr_22, Sum.elim_inl, Sum.elim_inr, ↓reduceIte, Nat.reduceLT, Nat.reduceLeDiff, not_false_eq_true, not_true_eq_false, Nat.reduceEqDiff, Nat.reduceAdd, reduceCtorEq, and_true, true_and, and_false, false_and, false_or, or_false]
  intro σ τ k C m ts h hm hts
  rcases hop σ τ k C m ts h hm (by omega) with ⟨σ1, τ1, y1, y2, k1, C1, n1, y3, y4, y5⟩ | ⟨σ1, τ1, y1, y2, y3⟩
  · have lp := j_loop (us := false :: ts) (F1 := fun s => F_9031_12 tT c1 c2 c3 150 (nI x) s.1 s.2) (F2 := fun s => F_22_5 tT m1 m2 m3 0 (nI x) s) hdz (fun i σ τ k C m h hi hm => by
      have hk := h.1.2.1
      obtain ⟨q1, -, -, -, -, q6, q7, q8⟩ := cx_k hx hk
      have p2 := h.1.2.2.1.2.1
      have tq := tcd_eq hx hk (c := 24) (by omega) (by omega) (by omega)
      have tq' : nI (tcd (κ k) (v k)) = nI 4042 ↔ κ k = 24 := tq
      have im := m_is hx h.1 (c := 24) (by omega)
      by_cases qk : κ k = 24
      · have hkK := q6 (by omega)
        have a1 : ¬ nI 900 ≤ nI i := by rw [nI_leI (by omega) (by omega)]; omega
        have a2 := tq'.mpr qk
        rw [decide_eq_true qk, mb_t1] at im
        obtain ⟨σ2, τ2, z1, z2, z3, -⟩ := j_adv hx h (by omega)
        have et : f_12 tT τ 0 (nI 24) = some (nI 1, τ2) := by
          unfold f_12
          simp only [la_0, im, n10, z2, gd_tt, oA_arr, px_obj_s, Option.bind_some, Option.map_some, Option.bind_none, eq_self, true_or, or_true, px_av_0, px_av_1, px_av_2, px_av_10, px_av_11, bn, wi_1, wi_2, wl_1, wl_21, wl_22, wr_1, wr_21, wr_22, Sum.elim_inl, Sum.elim_inr, ↓reduceIte, Nat.reduceLT, Nat.reduceLeDiff, not_false_eq_true, not_true_eq_false, Nat.reduceEqDiff, Nat.reduceAdd, reduceCtorEq, and_true, true_and, and_false, false_and, false_or, or_false]
        rcases hop σ2 τ2 (k + 1) C m (false :: ts) z3 (by omega) (by rw [List.length_cons]; omega) with ⟨σ3, τ3, w1, w2, k3, C3, n3, w3, w4, w5⟩ | ⟨σ3, τ3, w1, w2, w3⟩
        · obtain ⟨l1, -⟩ := w3.1.2
          obtain ⟨σ4, τ4, u1, u2, u3⟩ := j_code hx w3 h6 (c := 3002) (us := false :: ts) (Or.inr (Or.inr ⟨by omega, by omega, false, false, false, ts, rfl, rfl, fun q => (by cases q), fun q => (by omega)⟩)) (by omega)
          have u1' : f_10004 tT σ3 143 (nI 2002) = some σ4 := u1
          obtain ⟨hR, -⟩ := cx_c hx w3.1.1.1
          refine Or.inr (Or.inl ⟨σ4, τ4, k3, _, n3 + 1, ?_, ?_, u3, by omega, by omega⟩)
          · dsimp only
            unfold F_9031_12 f_9031_56
            simp only [a1, la_150, la_140, la_143, p2, a2, z1, w1, n10, rc_150_3 hR, rc_140_1 hR, u1', nI_add, gd_tt, oA_arr, px_obj_s, Option.bind_some, Option.map_some, Option.bind_none, eq_self, true_or, or_true, px_av_0, px_av_1, px_av_2, px_av_10, px_av_11, bn, wi_1, wi_2, wl_1, wl_21, wl_22, wr_1, wr_21, wr_22, Sum.elim_inl, Sum.elim_inr, ↓reduceIte, Nat.reduceLT, Nat.reduceLeDiff, not_false_eq_true, not_true_eq_false, Nat.reduceEqDiff, Nat.reduceAdd, reduceCtorEq, and_true, true_and, and_false, false_and, false_or, or_false]
          · unfold F_22_5
            simp only [la_0, et, n10, w2, u2, gd_tt, oA_arr, px_obj_s, Option.bind_some, Option.map_some, Option.bind_none, eq_self, true_or, or_true, px_av_0, px_av_1, px_av_2, px_av_10, px_av_11, bn, wi_1, wi_2, wl_1, wl_21, wl_22, wr_1, wr_21, wr_22, Sum.elim_inl, Sum.elim_inr, ↓reduceIte, Nat.reduceLT, Nat.reduceLeDiff, not_false_eq_true, not_true_eq_false, Nat.reduceEqDiff, Nat.reduceAdd, reduceCtorEq, and_true, true_and, and_false, false_and, false_or, or_false]
        · obtain ⟨f, f0, f5, f1⟩ := ded_x w3
          refine Or.inr (Or.inr ⟨σ3, τ3, ?_, ?_, w3⟩)
          · dsimp only
            unfold F_9031_12
            simp only [a1, la_150, p2, a2, z1, w1, gd_tt, oA_arr, px_obj_s, Option.bind_some, Option.map_some, Option.bind_none, eq_self, true_or, or_true, px_av_0, px_av_1, px_av_2, px_av_10, px_av_11, bn, wi_1, wi_2, wl_1, wl_21, wl_22, wr_1, wr_21, wr_22, Sum.elim_inl, Sum.elim_inr, ↓reduceIte, Nat.reduceLT, Nat.reduceLeDiff, not_false_eq_true, not_true_eq_false, Nat.reduceEqDiff, Nat.reduceAdd, reduceCtorEq, and_true, true_and, and_false, false_and, false_or, or_false]
          · unfold F_22_5
            simp only [la_0, et, n10, w2, z_codes f0 f5 f1, gd_tt, oA_arr, px_obj_s, Option.bind_some, Option.map_some, Option.bind_none, eq_self, true_or, or_true, px_av_0, px_av_1, px_av_2, px_av_10, px_av_11, bn, wi_1, wi_2, wl_1, wl_21, wl_22, wr_1, wr_21, wr_22, Sum.elim_inl, Sum.elim_inr, ↓reduceIte, Nat.reduceLT, Nat.reduceLeDiff, not_false_eq_true, not_true_eq_false, Nat.reduceEqDiff, Nat.reduceAdd, reduceCtorEq, and_true, true_and, and_false, false_and, false_or, or_false]
      · have a2 := mt tq'.mp qk
        rw [decide_eq_false qk, mb_f0] at im
        refine Or.inl ⟨?_, ?_⟩
        · dsimp only
          unfold F_9031_12
          by_cases a1 : nI 900 ≤ nI i
          · simp only [a1, gd_tt, oA_arr, px_obj_s, Option.bind_some, Option.map_some, Option.bind_none, eq_self, true_or, or_true, px_av_0, px_av_1, px_av_2, px_av_10, px_av_11, bn, wi_1, wi_2, wl_1, wl_21, wl_22, wr_1, wr_21, wr_22, Sum.elim_inl, Sum.elim_inr, ↓reduceIte, Nat.reduceLT, Nat.reduceLeDiff, not_false_eq_true, not_true_eq_false, Nat.reduceEqDiff, Nat.reduceAdd, reduceCtorEq, and_true, true_and, and_false, false_and, false_or, or_false]
          · simp only [a1, la_150, p2, a2, gd_tt, oA_arr, px_obj_s, Option.bind_some, Option.map_some, Option.bind_none, eq_self, true_or, or_true, px_av_0, px_av_1, px_av_2, px_av_10, px_av_11, bn, wi_1, wi_2, wl_1, wl_21, wl_22, wr_1, wr_21, wr_22, Sum.elim_inl, Sum.elim_inr, ↓reduceIte, Nat.reduceLT, Nat.reduceLeDiff, not_false_eq_true, not_true_eq_false, Nat.reduceEqDiff, Nat.reduceAdd, reduceCtorEq, and_true, true_and, and_false, false_and, false_or, or_false]
        · unfold F_22_5 f_12
          simp only [la_0, im, gd_tt, oA_arr, px_obj_s, Option.bind_some, Option.map_some, Option.bind_none, eq_self, true_or, or_true, px_av_0, px_av_1, px_av_2, px_av_10, px_av_11, bn, wi_1, wi_2, wl_1, wl_21, wl_22, wr_1, wr_21, wr_22, Sum.elim_inl, Sum.elim_inr, ↓reduceIte, Nat.reduceLT, Nat.reduceLeDiff, not_false_eq_true, not_true_eq_false, Nat.reduceEqDiff, Nat.reduceAdd, reduceCtorEq, and_true, true_and, and_false, false_and, false_or, or_false]) K 0 σ1 τ1 k1 C1 n1 (by omega) y3 (by omega) (by omega)
    rcases lp with ⟨σ2, τ2, z1, z2, k2, C2, n2, z3, z4, z5⟩ | ⟨σ2, τ2, z1, z2, z3⟩
    · refine Or.inl ⟨σ2, τ2, ?_, ?_, k2, C2, n2, z3, by omega, by omega⟩
      · unfold F_9031 f_9031_12
        simp only [la_150, y1, n10, z1, gd_tt, oA_arr, px_obj_s, Option.bind_some, Option.map_some, Option.bind_none, eq_self, true_or, or_true, px_av_0, px_av_1, px_av_2, px_av_10, px_av_11, bn, wi_1, wi_2, wl_1, wl_21, wl_22, wr_1, wr_21, wr_22, Sum.elim_inl, Sum.elim_inr, ↓reduceIte, Nat.reduceLT, Nat.reduceLeDiff, not_false_eq_true, not_true_eq_false, Nat.reduceEqDiff, Nat.reduceAdd, reduceCtorEq, and_true, true_and, and_false, false_and, false_or, or_false]
      · unfold F_22 f_22_5
        simp only [la_0, y2, z2, gd_tt, oA_arr, px_obj_s, Option.bind_some, Option.map_some, Option.bind_none, eq_self, true_or, or_true, px_av_0, px_av_1, px_av_2, px_av_10, px_av_11, bn, wi_1, wi_2, wl_1, wl_21, wl_22, wr_1, wr_21, wr_22, Sum.elim_inl, Sum.elim_inr, ↓reduceIte, Nat.reduceLT, Nat.reduceLeDiff, not_false_eq_true, not_true_eq_false, Nat.reduceEqDiff, Nat.reduceAdd, reduceCtorEq, and_true, true_and, and_false, false_and, false_or, or_false]
    · refine Or.inr ⟨σ2, τ2, ?_, ?_, z3⟩
      · unfold F_9031 f_9031_12
        simp only [la_150, y1, n10, z1, gd_tt, oA_arr, px_obj_s, Option.bind_some, Option.map_some, Option.bind_none, eq_self, true_or, or_true, px_av_0, px_av_1, px_av_2, px_av_10, px_av_11, bn, wi_1, wi_2, wl_1, wl_21, wl_22, wr_1, wr_21, wr_22, Sum.elim_inl, Sum.elim_inr, ↓reduceIte, Nat.reduceLT, Nat.reduceLeDiff, not_false_eq_true, not_true_eq_false, Nat.reduceEqDiff, Nat.reduceAdd, reduceCtorEq, and_true, true_and, and_false, false_and, false_or, or_false]
      · unfold F_22 f_22_5
        simp only [la_0, y2, z2, gd_tt, oA_arr, px_obj_s, Option.bind_some, Option.map_some, Option.bind_none, eq_self, true_or, or_true, px_av_0, px_av_1, px_av_2, px_av_10, px_av_11, bn, wi_1, wi_2, wl_1, wl_21, wl_22, wr_1, wr_21, wr_22, Sum.elim_inl, Sum.elim_inr, ↓reduceIte, Nat.reduceLT, Nat.reduceLeDiff, not_false_eq_true, not_true_eq_false, Nat.reduceEqDiff, Nat.reduceAdd, reduceCtorEq, and_true, true_and, and_false, false_and, false_or, or_false]
  · refine Or.inr ⟨σ1, τ1, ?_, ?_, y3⟩
    · unfold F_9031
      simp only [la_150, y1, gd_tt, oA_arr, px_obj_s, Option.bind_some, Option.map_some, Option.bind_none, eq_self, true_or, or_true, px_av_0, px_av_1, px_av_2, px_av_10, px_av_11, bn, wi_1, wi_2, wl_1, wl_21, wl_22, wr_1, wr_21, wr_22, Sum.elim_inl, Sum.elim_inr, ↓reduceIte, Nat.reduceLT, Nat.reduceLeDiff, not_false_eq_true, not_true_eq_false, Nat.reduceEqDiff, Nat.reduceAdd, reduceCtorEq, and_true, true_and, and_false, false_and, false_or, or_false]
    · unfold F_22 f_22_5
      simp only [la_0, y2, lp_end (F := fun s => F_22_5 tT m1 m2 m3 0 (nI x) s) (hdz σ1 τ1 y3), gd_tt, oA_arr, px_obj_s, Option.bind_some, Option.map_some, Option.bind_none, eq_self, true_or, or_true, px_av_0, px_av_1, px_av_2, px_av_10, px_av_11, bn, wi_1, wi_2, wl_1, wl_21, wl_22, wr_1, wr_21, wr_22, Sum.elim_inl, Sum.elim_inr, ↓reduceIte, Nat.reduceLT, Nat.reduceLeDiff, not_false_eq_true, not_true_eq_false, Nat.reduceEqDiff, Nat.reduceAdd, reduceCtorEq, and_true, true_and, and_false, false_and, false_or, or_false]
theorem j_both (hx : cx σ0 τ0 b e K pl bh κ v) (h6 : nr < 6) {x L : Nat} {c1 c2 c3 : px_M → Nat → Int32 → Option (Int32 × px_M)} {m1 m2 m3 : px_M → Nat → Int32 → Option px_M} (hop : pce σ0 τ0 K pl bh κ v n B nr S ln c3 m1 true x (L + 1)) : pce σ0 τ0 K pl bh κ v n B nr S ln (F_9026 tT c1 c2 c3) (F_25 tT m1 m2 m3) true x L := by
  have hdz : ∀ σ τ, ded σ0 τ0 σ τ → F_25_5 tT m1 m2 m3 0 (nI x) τ = some (.inr τ) := fun σ τ h => by
    obtain ⟨f, f0, f5, f1⟩ := ded_x h
    unfold F_25_5
    simp only [la_0, z_eats f0 f5 f1, gd_tt, oA_arr, px_obj_s, Option.bind_some, Option.map_some, Option.bind_none, eq_self, true_or, or_true, px_av_0, px_av_1, px_av_2, px_av_10, px_av_11, bn, wi_1, wi_2, wl_1, wl_21, wl_22, wr_1, wr_21, wr_22, Sum.elim_inl, Sum.elim_inr, ↓reduceIte, Nat.reduceLT, Nat.reduceLeDiff, not_false_eq_true, not_true_eq_false, Nat.reduceEqDiff, Nat.reduceAdd, reduceCtorEq, and_true, true_and, and_false, false_and, false_or, or_false]
  intro σ τ k C m ts h hm hts
  rcases hop σ τ k C m ts h hm (by omega) with ⟨σ1, τ1, y1, y2, k1, C1, n1, y3, y4, y5⟩ | ⟨σ1, τ1, y1, y2, y3⟩
  · have lp := j_loop (us := true :: ts) (F1 := fun s => F_9026_12 tT c1 c2 c3 150 (nI x) s.1 s.2) (F2 := fun s => F_25_5 tT m1 m2 m3 0 (nI x) s) hdz (fun i σ τ k C m h hi hm => by
      have hk := h.1.2.1
      obtain ⟨q1, -, -, -, -, q6, q7, q8⟩ := cx_k hx hk
      have p2 := h.1.2.2.1.2.1
      have tq := tcd_eq hx hk (c := 5) (by omega) (by omega) (by omega)
      have tq' : nI (tcd (κ k) (v k)) = nI 2007 ↔ κ k = 5 := tq
      have im := m_is hx h.1 (c := 5) (by omega)
      by_cases qk : κ k = 5
      · have hkK := q6 (by omega)
        have a1 : ¬ nI 900 ≤ nI i := by rw [nI_leI (by omega) (by omega)]; omega
        have a2 := tq'.mpr qk
        rw [decide_eq_true qk, mb_t1] at im
        obtain ⟨σ2, τ2, z1, z2, z3, -⟩ := j_adv hx h (by omega)
        have et : f_12 tT τ 0 (nI 5) = some (nI 1, τ2) := by
          unfold f_12
          simp only [la_0, im, n10, z2, gd_tt, oA_arr, px_obj_s, Option.bind_some, Option.map_some, Option.bind_none, eq_self, true_or, or_true, px_av_0, px_av_1, px_av_2, px_av_10, px_av_11, bn, wi_1, wi_2, wl_1, wl_21, wl_22, wr_1, wr_21, wr_22, Sum.elim_inl, Sum.elim_inr, ↓reduceIte, Nat.reduceLT, Nat.reduceLeDiff, not_false_eq_true, not_true_eq_false, Nat.reduceEqDiff, Nat.reduceAdd, reduceCtorEq, and_true, true_and, and_false, false_and, false_or, or_false]
        rcases hop σ2 τ2 (k + 1) C m (true :: ts) z3 (by omega) (by rw [List.length_cons]; omega) with ⟨σ3, τ3, w1, w2, k3, C3, n3, w3, w4, w5⟩ | ⟨σ3, τ3, w1, w2, w3⟩
        · obtain ⟨l1, -⟩ := w3.1.2
          obtain ⟨σ4, τ4, u1, u2, u3⟩ := j_code hx w3 h6 (c := 3006) (us := true :: ts) (Or.inr (Or.inr ⟨by omega, by omega, true, true, true, ts, rfl, rfl, fun q => (by omega), fun q => ⟨rfl, rfl⟩⟩)) (by omega)
          have u1' : f_10004 tT σ3 143 (nI 2007) = some σ4 := u1
          obtain ⟨hR, -⟩ := cx_c hx w3.1.1.1
          refine Or.inr (Or.inl ⟨σ4, τ4, k3, _, n3 + 1, ?_, ?_, u3, by omega, by omega⟩)
          · dsimp only
            unfold F_9026_12 f_9026_56
            simp only [a1, la_150, la_140, la_143, p2, a2, z1, w1, n10, rc_150_3 hR, rc_140_1 hR, u1', nI_add, gd_tt, oA_arr, px_obj_s, Option.bind_some, Option.map_some, Option.bind_none, eq_self, true_or, or_true, px_av_0, px_av_1, px_av_2, px_av_10, px_av_11, bn, wi_1, wi_2, wl_1, wl_21, wl_22, wr_1, wr_21, wr_22, Sum.elim_inl, Sum.elim_inr, ↓reduceIte, Nat.reduceLT, Nat.reduceLeDiff, not_false_eq_true, not_true_eq_false, Nat.reduceEqDiff, Nat.reduceAdd, reduceCtorEq, and_true, true_and, and_false, false_and, false_or, or_false]
          · unfold F_25_5
            simp only [la_0, et, n10, w2, u2, gd_tt, oA_arr, px_obj_s, Option.bind_some, Option.map_some, Option.bind_none, eq_self, true_or, or_true, px_av_0, px_av_1, px_av_2, px_av_10, px_av_11, bn, wi_1, wi_2, wl_1, wl_21, wl_22, wr_1, wr_21, wr_22, Sum.elim_inl, Sum.elim_inr, ↓reduceIte, Nat.reduceLT, Nat.reduceLeDiff, not_false_eq_true, not_true_eq_false, Nat.reduceEqDiff, Nat.reduceAdd, reduceCtorEq, and_true, true_and, and_false, false_and, false_or, or_false]
        · obtain ⟨f, f0, f5, f1⟩ := ded_x w3
          refine Or.inr (Or.inr ⟨σ3, τ3, ?_, ?_, w3⟩)
          · dsimp only
            unfold F_9026_12
            simp only [a1, la_150, p2, a2, z1, w1, gd_tt, oA_arr, px_obj_s, Option.bind_some, Option.map_some, Option.bind_none, eq_self, true_or, or_true, px_av_0, px_av_1, px_av_2, px_av_10, px_av_11, bn, wi_1, wi_2, wl_1, wl_21, wl_22, wr_1, wr_21, wr_22, Sum.elim_inl, Sum.elim_inr, ↓reduceIte, Nat.reduceLT, Nat.reduceLeDiff, not_false_eq_true, not_true_eq_false, Nat.reduceEqDiff, Nat.reduceAdd, reduceCtorEq, and_true, true_and, and_false, false_and, false_or, or_false]
          · unfold F_25_5
            simp only [la_0, et, n10, w2, z_codes f0 f5 f1, gd_tt, oA_arr, px_obj_s, Option.bind_some, Option.map_some, Option.bind_none, eq_self, true_or, or_true, px_av_0, px_av_1, px_av_2, px_av_10, px_av_11, bn, wi_1, wi_2, wl_1, wl_21, wl_22, wr_1, wr_21, wr_22, Sum.elim_inl, Sum.elim_inr, ↓reduceIte, Nat.reduceLT, Nat.reduceLeDiff, not_false_eq_true, not_true_eq_false, Nat.reduceEqDiff, Nat.reduceAdd, reduceCtorEq, and_true, true_and, and_false, false_and, false_or, or_false]
      · have a2 := mt tq'.mp qk
        rw [decide_eq_false qk, mb_f0] at im
        refine Or.inl ⟨?_, ?_⟩
        · dsimp only
          unfold F_9026_12
          by_cases a1 : nI 900 ≤ nI i
          · simp only [a1, gd_tt, oA_arr, px_obj_s, Option.bind_some, Option.map_some, Option.bind_none, eq_self, true_or, or_true, px_av_0, px_av_1, px_av_2, px_av_10, px_av_11, bn, wi_1, wi_2, wl_1, wl_21, wl_22, wr_1, wr_21, wr_22, Sum.elim_inl, Sum.elim_inr, ↓reduceIte, Nat.reduceLT, Nat.reduceLeDiff, not_false_eq_true, not_true_eq_false, Nat.reduceEqDiff, Nat.reduceAdd, reduceCtorEq, and_true, true_and, and_false, false_and, false_or, or_false]
          · simp only [a1, la_150, p2, a2, gd_tt, oA_arr, px_obj_s, Option.bind_some, Option.map_some, Option.bind_none, eq_self, true_or, or_true, px_av_0, px_av_1, px_av_2, px_av_10, px_av_11, bn, wi_1, wi_2, wl_1, wl_21, wl_22, wr_1, wr_21, wr_22, Sum.elim_inl, Sum.elim_inr, ↓reduceIte, Nat.reduceLT, Nat.reduceLeDiff, not_false_eq_true, not_true_eq_false, Nat.reduceEqDiff, Nat.reduceAdd, reduceCtorEq, and_true, true_and, and_false, false_and, false_or, or_false]
        · unfold F_25_5 f_12
          simp only [la_0, im, gd_tt, oA_arr, px_obj_s, Option.bind_some, Option.map_some, Option.bind_none, eq_self, true_or, or_true, px_av_0, px_av_1, px_av_2, px_av_10, px_av_11, bn, wi_1, wi_2, wl_1, wl_21, wl_22, wr_1, wr_21, wr_22, Sum.elim_inl, Sum.elim_inr, ↓reduceIte, Nat.reduceLT, Nat.reduceLeDiff, not_false_eq_true, not_true_eq_false, Nat.reduceEqDiff, Nat.reduceAdd, reduceCtorEq, and_true, true_and, and_false, false_and, false_or, or_false]) K 0 σ1 τ1 k1 C1 n1 (by omega) y3 (by omega) (by omega)
    rcases lp with ⟨σ2, τ2, z1, z2, k2, C2, n2, z3, z4, z5⟩ | ⟨σ2, τ2, z1, z2, z3⟩
    · refine Or.inl ⟨σ2, τ2, ?_, ?_, k2, C2, n2, z3, by omega, by omega⟩
      · unfold F_9026 f_9026_12
        simp only [la_150, y1, n10, z1, gd_tt, oA_arr, px_obj_s, Option.bind_some, Option.map_some, Option.bind_none, eq_self, true_or, or_true, px_av_0, px_av_1, px_av_2, px_av_10, px_av_11, bn, wi_1, wi_2, wl_1, wl_21, wl_22, wr_1, wr_21, wr_22, Sum.elim_inl, Sum.elim_inr, ↓reduceIte, Nat.reduceLT, Nat.reduceLeDiff, not_false_eq_true, not_true_eq_false, Nat.reduceEqDiff, Nat.reduceAdd, reduceCtorEq, and_true, true_and, and_false, false_and, false_or, or_false]
      · unfold F_25 f_25_5
        simp only [la_0, y2, z2, gd_tt, oA_arr, px_obj_s, Option.bind_some, Option.map_some, Option.bind_none, eq_self, true_or, or_true, px_av_0, px_av_1, px_av_2, px_av_10, px_av_11, bn, wi_1, wi_2, wl_1, wl_21, wl_22, wr_1, wr_21, wr_22, Sum.elim_inl, Sum.elim_inr, ↓reduceIte, Nat.reduceLT, Nat.reduceLeDiff, not_false_eq_true, not_true_eq_false, Nat.reduceEqDiff, Nat.reduceAdd, reduceCtorEq, and_true, true_and, and_false, false_and, false_or, or_false]
    · refine Or.inr ⟨σ2, τ2, ?_, ?_, z3⟩
      · unfold F_9026 f_9026_12
        simp only [la_150, y1, n10, z1, gd_tt, oA_arr, px_obj_s, Option.bind_some, Option.map_some, Option.bind_none, eq_self, true_or, or_true, px_av_0, px_av_1, px_av_2, px_av_10, px_av_11, bn, wi_1, wi_2, wl_1, wl_21, wl_22, wr_1, wr_21, wr_22, Sum.elim_inl, Sum.elim_inr, ↓reduceIte, Nat.reduceLT, Nat.reduceLeDiff, not_false_eq_true, not_true_eq_false, Nat.reduceEqDiff, Nat.reduceAdd, reduceCtorEq, and_true, true_and, and_false, false_and, false_or, or_false]
      · unfold F_25 f_25_5
        simp only [la_0, y2, z2, gd_tt, oA_arr, px_obj_s, Option.bind_some, Option.map_some, Option.bind_none, eq_self, true_or, or_true, px_av_0, px_av_1, px_av_2, px_av_10, px_av_11, bn, wi_1, wi_2, wl_1, wl_21, wl_22, wr_1, wr_21, wr_22, Sum.elim_inl, Sum.elim_inr, ↓reduceIte, Nat.reduceLT, Nat.reduceLeDiff, not_false_eq_true, not_true_eq_false, Nat.reduceEqDiff, Nat.reduceAdd, reduceCtorEq, and_true, true_and, and_false, false_and, false_or, or_false]
  · refine Or.inr ⟨σ1, τ1, ?_, ?_, y3⟩
    · unfold F_9026
      simp only [la_150, y1, gd_tt, oA_arr, px_obj_s, Option.bind_some, Option.map_some, Option.bind_none, eq_self, true_or, or_true, px_av_0, px_av_1, px_av_2, px_av_10, px_av_11, bn, wi_1, wi_2, wl_1, wl_21, wl_22, wr_1, wr_21, wr_22, Sum.elim_inl, Sum.elim_inr, ↓reduceIte, Nat.reduceLT, Nat.reduceLeDiff, not_false_eq_true, not_true_eq_false, Nat.reduceEqDiff, Nat.reduceAdd, reduceCtorEq, and_true, true_and, and_false, false_and, false_or, or_false]
    · unfold F_25 f_25_5
      simp only [la_0, y2, lp_end (F := fun s => F_25_5 tT m1 m2 m3 0 (nI x) s) (hdz σ1 τ1 y3), gd_tt, oA_arr, px_obj_s, Option.bind_some, Option.map_some, Option.bind_none, eq_self, true_or, or_true, px_av_0, px_av_1, px_av_2, px_av_10, px_av_11, bn, wi_1, wi_2, wl_1, wl_21, wl_22, wr_1, wr_21, wr_22, Sum.elim_inl, Sum.elim_inr, ↓reduceIte, Nat.reduceLT, Nat.reduceLeDiff, not_false_eq_true, not_true_eq_false, Nat.reduceEqDiff, Nat.reduceAdd, reduceCtorEq, and_true, true_and, and_false, false_and, false_or, or_false]
theorem j_truth (hx : cx σ0 τ0 b e K pl bh κ v) (h6 : nr < 6) {x L : Nat} {c1 c2 c3 : px_M → Nat → Int32 → Option (Int32 × px_M)} {m1 m2 m3 : px_M → Nat → Int32 → Option px_M} (hop : pce σ0 τ0 K pl bh κ v n B nr S ln c2 m2 true x (L + 1)) : pce σ0 τ0 K pl bh κ v n B nr S ln (F_9025 tT c1 c2 c3) (F_26 tT m1 m2 m3) true x L := by
  have hdz : ∀ σ τ, ded σ0 τ0 σ τ → F_26_5 tT m1 m2 m3 0 (nI x) τ = some (.inr τ) := fun σ τ h => by
    obtain ⟨f, f0, f5, f1⟩ := ded_x h
    unfold F_26_5
    simp only [la_0, z_eats f0 f5 f1, gd_tt, oA_arr, px_obj_s, Option.bind_some, Option.map_some, Option.bind_none, eq_self, true_or, or_true, px_av_0, px_av_1, px_av_2, px_av_10, px_av_11, bn, wi_1, wi_2, wl_1, wl_21, wl_22, wr_1, wr_21, wr_22, Sum.elim_inl, Sum.elim_inr, ↓reduceIte, Nat.reduceLT, Nat.reduceLeDiff, not_false_eq_true, not_true_eq_false, Nat.reduceEqDiff, Nat.reduceAdd, reduceCtorEq, and_true, true_and, and_false, false_and, false_or, or_false]
  intro σ τ k C m ts h hm hts
  rcases hop σ τ k C m ts h hm (by omega) with ⟨σ1, τ1, y1, y2, k1, C1, n1, y3, y4, y5⟩ | ⟨σ1, τ1, y1, y2, y3⟩
  · have lp := j_loop (us := true :: ts) (F1 := fun s => F_9025_12 tT c1 c2 c3 150 (nI x) s.1 s.2) (F2 := fun s => F_26_5 tT m1 m2 m3 0 (nI x) s) hdz (fun i σ τ k C m h hi hm => by
      have hk := h.1.2.1
      obtain ⟨q1, -, -, -, -, q6, q7, q8⟩ := cx_k hx hk
      have p2 := h.1.2.2.1.2.1
      have tq := tcd_eq hx hk (c := 4) (by omega) (by omega) (by omega)
      have tq' : nI (tcd (κ k) (v k)) = nI 2008 ↔ κ k = 4 := tq
      have im := m_is hx h.1 (c := 4) (by omega)
      by_cases qk : κ k = 4
      · have hkK := q6 (by omega)
        have a1 : ¬ nI 900 ≤ nI i := by rw [nI_leI (by omega) (by omega)]; omega
        have a2 := tq'.mpr qk
        rw [decide_eq_true qk, mb_t1] at im
        obtain ⟨σ2, τ2, z1, z2, z3, -⟩ := j_adv hx h (by omega)
        have et : f_12 tT τ 0 (nI 4) = some (nI 1, τ2) := by
          unfold f_12
          simp only [la_0, im, n10, z2, gd_tt, oA_arr, px_obj_s, Option.bind_some, Option.map_some, Option.bind_none, eq_self, true_or, or_true, px_av_0, px_av_1, px_av_2, px_av_10, px_av_11, bn, wi_1, wi_2, wl_1, wl_21, wl_22, wr_1, wr_21, wr_22, Sum.elim_inl, Sum.elim_inr, ↓reduceIte, Nat.reduceLT, Nat.reduceLeDiff, not_false_eq_true, not_true_eq_false, Nat.reduceEqDiff, Nat.reduceAdd, reduceCtorEq, and_true, true_and, and_false, false_and, false_or, or_false]
        rcases hop σ2 τ2 (k + 1) C m (true :: ts) z3 (by omega) (by rw [List.length_cons]; omega) with ⟨σ3, τ3, w1, w2, k3, C3, n3, w3, w4, w5⟩ | ⟨σ3, τ3, w1, w2, w3⟩
        · obtain ⟨l1, -⟩ := w3.1.2
          obtain ⟨σ4, τ4, u1, u2, u3⟩ := j_code hx w3 h6 (c := 3007) (us := true :: ts) (Or.inr (Or.inr ⟨by omega, by omega, true, true, true, ts, rfl, rfl, fun q => (by omega), fun q => ⟨rfl, rfl⟩⟩)) (by omega)
          have u1' : f_10004 tT σ3 143 (nI 2008) = some σ4 := u1
          obtain ⟨hR, -⟩ := cx_c hx w3.1.1.1
          refine Or.inr (Or.inl ⟨σ4, τ4, k3, _, n3 + 1, ?_, ?_, u3, by omega, by omega⟩)
          · dsimp only
            unfold F_9025_12 f_9025_56
            simp only [a1, la_150, la_140, la_143, p2, a2, z1, w1, n10, rc_150_3 hR, rc_140_1 hR, u1', nI_add, gd_tt, oA_arr, px_obj_s, Option.bind_some, Option.map_some, Option.bind_none, eq_self, true_or, or_true, px_av_0, px_av_1, px_av_2, px_av_10, px_av_11, bn, wi_1, wi_2, wl_1, wl_21, wl_22, wr_1, wr_21, wr_22, Sum.elim_inl, Sum.elim_inr, ↓reduceIte, Nat.reduceLT, Nat.reduceLeDiff, not_false_eq_true, not_true_eq_false, Nat.reduceEqDiff, Nat.reduceAdd, reduceCtorEq, and_true, true_and, and_false, false_and, false_or, or_false]
          · unfold F_26_5
            simp only [la_0, et, n10, w2, u2, gd_tt, oA_arr, px_obj_s, Option.bind_some, Option.map_some, Option.bind_none, eq_self, true_or, or_true, px_av_0, px_av_1, px_av_2, px_av_10, px_av_11, bn, wi_1, wi_2, wl_1, wl_21, wl_22, wr_1, wr_21, wr_22, Sum.elim_inl, Sum.elim_inr, ↓reduceIte, Nat.reduceLT, Nat.reduceLeDiff, not_false_eq_true, not_true_eq_false, Nat.reduceEqDiff, Nat.reduceAdd, reduceCtorEq, and_true, true_and, and_false, false_and, false_or, or_false]
        · obtain ⟨f, f0, f5, f1⟩ := ded_x w3
          refine Or.inr (Or.inr ⟨σ3, τ3, ?_, ?_, w3⟩)
          · dsimp only
            unfold F_9025_12
            simp only [a1, la_150, p2, a2, z1, w1, gd_tt, oA_arr, px_obj_s, Option.bind_some, Option.map_some, Option.bind_none, eq_self, true_or, or_true, px_av_0, px_av_1, px_av_2, px_av_10, px_av_11, bn, wi_1, wi_2, wl_1, wl_21, wl_22, wr_1, wr_21, wr_22, Sum.elim_inl, Sum.elim_inr, ↓reduceIte, Nat.reduceLT, Nat.reduceLeDiff, not_false_eq_true, not_true_eq_false, Nat.reduceEqDiff, Nat.reduceAdd, reduceCtorEq, and_true, true_and, and_false, false_and, false_or, or_false]
          · unfold F_26_5
            simp only [la_0, et, n10, w2, z_codes f0 f5 f1, gd_tt, oA_arr, px_obj_s, Option.bind_some, Option.map_some, Option.bind_none, eq_self, true_or, or_true, px_av_0, px_av_1, px_av_2, px_av_10, px_av_11, bn, wi_1, wi_2, wl_1, wl_21, wl_22, wr_1, wr_21, wr_22, Sum.elim_inl, Sum.elim_inr, ↓reduceIte, Nat.reduceLT, Nat.reduceLeDiff, not_false_eq_true, not_true_eq_false, Nat.reduceEqDiff, Nat.reduceAdd, reduceCtorEq, and_true, true_and, and_false, false_and, false_or, or_false]
      · have a2 := mt tq'.mp qk
        rw [decide_eq_false qk, mb_f0] at im
        refine Or.inl ⟨?_, ?_⟩
        · dsimp only
          unfold F_9025_12
          by_cases a1 : nI 900 ≤ nI i
          · simp only [a1, gd_tt, oA_arr, px_obj_s, Option.bind_some, Option.map_some, Option.bind_none, eq_self, true_or, or_true, px_av_0, px_av_1, px_av_2, px_av_10, px_av_11, bn, wi_1, wi_2, wl_1, wl_21, wl_22, wr_1, wr_21, wr_22, Sum.elim_inl, Sum.elim_inr, ↓reduceIte, Nat.reduceLT, Nat.reduceLeDiff, not_false_eq_true, not_true_eq_false, Nat.reduceEqDiff, Nat.reduceAdd, reduceCtorEq, and_true, true_and, and_false, false_and, false_or, or_false]
          · simp only [a1, la_150, p2, a2, gd_tt, oA_arr, px_obj_s, Option.bind_some, Option.map_some, Option.bind_none, eq_self, true_or, or_true, px_av_0, px_av_1, px_av_2, px_av_10, px_av_11, bn, wi_1, wi_2, wl_1, wl_21, wl_22, wr_1, wr_21, wr_22, Sum.elim_inl, Sum.elim_inr, ↓reduceIte, Nat.reduceLT, Nat.reduceLeDiff, not_false_eq_true, not_true_eq_false, Nat.reduceEqDiff, Nat.reduceAdd, reduceCtorEq, and_true, true_and, and_false, false_and, false_or, or_false]
        · unfold F_26_5 f_12
          simp only [la_0, im, gd_tt, oA_arr, px_obj_s, Option.bind_some, Option.map_some, Option.bind_none, eq_self, true_or, or_true, px_av_0, px_av_1, px_av_2, px_av_10, px_av_11, bn, wi_1, wi_2, wl_1, wl_21, wl_22, wr_1, wr_21, wr_22, Sum.elim_inl, Sum.elim_inr, ↓reduceIte, Nat.reduceLT, Nat.reduceLeDiff, not_false_eq_true, not_true_eq_false, Nat.reduceEqDiff, Nat.reduceAdd, reduceCtorEq, and_true, true_and, and_false, false_and, false_or, or_false]) K 0 σ1 τ1 k1 C1 n1 (by omega) y3 (by omega) (by omega)
    rcases lp with ⟨σ2, τ2, z1, z2, k2, C2, n2, z3, z4, z5⟩ | ⟨σ2, τ2, z1, z2, z3⟩
    · refine Or.inl ⟨σ2, τ2, ?_, ?_, k2, C2, n2, z3, by omega, by omega⟩
      · unfold F_9025 f_9025_12
        simp only [la_150, y1, n10, z1, gd_tt, oA_arr, px_obj_s, Option.bind_some, Option.map_some, Option.bind_none, eq_self, true_or, or_true, px_av_0, px_av_1, px_av_2, px_av_10, px_av_11, bn, wi_1, wi_2, wl_1, wl_21, wl_22, wr_1, wr_21, wr_22, Sum.elim_inl, Sum.elim_inr, ↓reduceIte, Nat.reduceLT, Nat.reduceLeDiff, not_false_eq_true, not_true_eq_false, Nat.reduceEqDiff, Nat.reduceAdd, reduceCtorEq, and_true, true_and, and_false, false_and, false_or, or_false]
      · unfold F_26 f_26_5
        simp only [la_0, y2, z2, gd_tt, oA_arr, px_obj_s, Option.bind_some, Option.map_some, Option.bind_none, eq_self, true_or, or_true, px_av_0, px_av_1, px_av_2, px_av_10, px_av_11, bn, wi_1, wi_2, wl_1, wl_21, wl_22, wr_1, wr_21, wr_22, Sum.elim_inl, Sum.elim_inr, ↓reduceIte, Nat.reduceLT, Nat.reduceLeDiff, not_false_eq_true, not_true_eq_false, Nat.reduceEqDiff, Nat.reduceAdd, reduceCtorEq, and_true, true_and, and_false, false_and, false_or, or_false]
    · refine Or.inr ⟨σ2, τ2, ?_, ?_, z3⟩
      · unfold F_9025 f_9025_12
        simp only [la_150, y1, n10, z1, gd_tt, oA_arr, px_obj_s, Option.bind_some, Option.map_some, Option.bind_none, eq_self, true_or, or_true, px_av_0, px_av_1, px_av_2, px_av_10, px_av_11, bn, wi_1, wi_2, wl_1, wl_21, wl_22, wr_1, wr_21, wr_22, Sum.elim_inl, Sum.elim_inr, ↓reduceIte, Nat.reduceLT, Nat.reduceLeDiff, not_false_eq_true, not_true_eq_false, Nat.reduceEqDiff, Nat.reduceAdd, reduceCtorEq, and_true, true_and, and_false, false_and, false_or, or_false]
      · unfold F_26 f_26_5
        simp only [la_0, y2, z2, gd_tt, oA_arr, px_obj_s, Option.bind_some, Option.map_some, Option.bind_none, eq_self, true_or, or_true, px_av_0, px_av_1, px_av_2, px_av_10, px_av_11, bn, wi_1, wi_2, wl_1, wl_21, wl_22, wr_1, wr_21, wr_22, Sum.elim_inl, Sum.elim_inr, ↓reduceIte, Nat.reduceLT, Nat.reduceLeDiff, not_false_eq_true, not_true_eq_false, Nat.reduceEqDiff, Nat.reduceAdd, reduceCtorEq, and_true, true_and, and_false, false_and, false_or, or_false]
  · refine Or.inr ⟨σ1, τ1, ?_, ?_, y3⟩
    · unfold F_9025
      simp only [la_150, y1, gd_tt, oA_arr, px_obj_s, Option.bind_some, Option.map_some, Option.bind_none, eq_self, true_or, or_true, px_av_0, px_av_1, px_av_2, px_av_10, px_av_11, bn, wi_1, wi_2, wl_1, wl_21, wl_22, wr_1, wr_21, wr_22, Sum.elim_inl, Sum.elim_inr, ↓reduceIte, Nat.reduceLT, Nat.reduceLeDiff, not_false_eq_true, not_true_eq_false, Nat.reduceEqDiff, Nat.reduceAdd, reduceCtorEq, and_true, true_and, and_false, false_and, false_or, or_false]
    · unfold F_26 f_26_5
      simp only [la_0, y2, lp_end (F := fun s => F_26_5 tT m1 m2 m3 0 (nI x) s) (hdz σ1 τ1 y3), gd_tt, oA_arr, px_obj_s, Option.bind_some, Option.map_some, Option.bind_none, eq_self, true_or, or_true, px_av_0, px_av_1, px_av_2, px_av_10, px_av_11, bn, wi_1, wi_2, wl_1, wl_21, wl_22, wr_1, wr_21, wr_22, Sum.elim_inl, Sum.elim_inr, ↓reduceIte, Nat.reduceLT, Nat.reduceLeDiff, not_false_eq_true, not_true_eq_false, Nat.reduceEqDiff, Nat.reduceAdd, reduceCtorEq, and_true, true_and, and_false, false_and, false_or, or_false]
theorem j_sum (hx : cx σ0 τ0 b e K pl bh κ v) (h6 : nr < 6) {x L : Nat} {c1 c2 c3 : px_M → Nat → Int32 → Option (Int32 × px_M)} {m1 m2 m3 : px_M → Nat → Int32 → Option px_M} (hop : pce σ0 τ0 K pl bh κ v n B nr S ln c2 m2 false x (L + 1)) : pce σ0 τ0 K pl bh κ v n B nr S ln (F_9030 tT c1 c2 c3) (F_23 tT m1 m2 m3) false x L := by
  have hdz : ∀ σ τ, ded σ0 τ0 σ τ → F_23_5 tT m1 m2 m3 0 (nI x) τ = some (.inr τ) := fun σ τ h => by
    obtain ⟨f, f0, f5, f1⟩ := ded_x h
    unfold F_23_5
    simp only [la_0, z_is f0 f5 f1, gd_tt, oA_arr, px_obj_s, Option.bind_some, Option.map_some, Option.bind_none, eq_self, true_or, or_true, px_av_0, px_av_1, px_av_2, px_av_10, px_av_11, bn, wi_1, wi_2, wl_1, wl_21, wl_22, wr_1, wr_21, wr_22, Sum.elim_inl, Sum.elim_inr, ↓reduceIte, Nat.reduceLT, Nat.reduceLeDiff, not_false_eq_true, not_true_eq_false, Nat.reduceEqDiff, Nat.reduceAdd, reduceCtorEq, and_true, true_and, and_false, false_and, false_or, or_false]
  have n1' : ¬ nI 1 = nI 0 := by decide
  intro σ τ k C m ts h hm hts
  rcases hop σ τ k C m ts h hm (by omega) with ⟨σ1, τ1, y1, y2, k1, C1, n1, y3, y4, y5⟩ | ⟨σ1, τ1, y1, y2, y3⟩
  · have lp := j_loop (us := false :: ts) (F1 := fun s => F_9030_12 tT c1 c2 c3 150 (nI x) s.1 s.2) (F2 := fun s => F_23_5 tT m1 m2 m3 0 (nI x) s) hdz (fun i σ τ k C m h hi hm => by
      have hk := h.1.2.1
      obtain ⟨q1, -, -, -, -, q6, q7, q8⟩ := cx_k hx hk
      have p2 := h.1.2.2.1.2.1
      have p6 := h.1.2.2.2.2.2.1
      have tp1 : nI (tcd (κ k) (v k)) = nI 4043 ↔ κ k = 22 := tcd_eq hx hk (c := 22) (by omega) (by omega) (by omega)
      have tp2 : nI (tcd (κ k) (v k)) = nI 4045 ↔ κ k = 23 := tcd_eq hx hk (c := 23) (by omega) (by omega) (by omega)
      have im1 := m_is hx h.1 (c := 22) (by omega)
      have im2 := m_is hx h.1 (c := 23) (by omega)
      have z22 : nI 23 = nI 22 ↔ False := ⟨by decide, fun h => h.elim⟩
      by_cases qa : κ k = 22
      · have hkK := q6 (by omega)
        have a1 : ¬ nI 900 ≤ nI i := by rw [nI_leI (by omega) (by omega)]; omega
        have a2 := tp1.mpr qa
        rw [decide_eq_true qa, mb_t1] at im1
        rw [qa] at p6
        obtain ⟨σ2, τ2, z1, z2, z3, -⟩ := j_adv hx h (by omega)
        rcases hop σ2 τ2 (k + 1) C m (false :: ts) z3 (by omega) (by rw [List.length_cons]; omega) with ⟨σ3, τ3, w1, w2, k3, C3, n3, w3, w4, w5⟩ | ⟨σ3, τ3, w1, w2, w3⟩
        · obtain ⟨l1, -⟩ := w3.1.2
          obtain ⟨σ4, τ4, u1, u2, u3⟩ := j_code hx w3 h6 (c := 3000) (us := false :: ts) (Or.inr (Or.inr ⟨by omega, by omega, false, false, false, ts, rfl, rfl, fun q => (by cases q), fun q => (by omega)⟩)) (by omega)
          have u1' : f_10004 tT σ3 143 (nI 2000) = some σ4 := u1
          obtain ⟨hR, -⟩ := cx_c hx w3.1.1.1
          refine Or.inr (Or.inl ⟨σ4, τ4, k3, _, n3 + 1, ?_, ?_, u3, by omega, by omega⟩)
          · dsimp only
            unfold F_9030_12 f_9030_35 f_9030_89
            simp only [a1, la_150, la_140, la_143, p2, a2, n1', z1, w1, n10, rc_150_3 hR, rc_140_1 hR, u1', nI_add, gd_tt, oA_arr, px_obj_s, Option.bind_some, Option.map_some, Option.bind_none, eq_self, true_or, or_true, px_av_0, px_av_1, px_av_2, px_av_10, px_av_11, bn, wi_1, wi_2, wl_1, wl_21, wl_22, wr_1, wr_21, wr_22, Sum.elim_inl, Sum.elim_inr, ↓reduceIte, Nat.reduceLT, Nat.reduceLeDiff, not_false_eq_true, not_true_eq_false, Nat.reduceEqDiff, Nat.reduceAdd, reduceCtorEq, and_true, true_and, and_false, false_and, false_or, or_false]
          · unfold F_23_5 f_23_23
            simp only [la_0, im1, n10, p6, z2, w2, u2, gd_tt, oA_arr, px_obj_s, Option.bind_some, Option.map_some, Option.bind_none, eq_self, true_or, or_true, px_av_0, px_av_1, px_av_2, px_av_10, px_av_11, bn, wi_1, wi_2, wl_1, wl_21, wl_22, wr_1, wr_21, wr_22, Sum.elim_inl, Sum.elim_inr, ↓reduceIte, Nat.reduceLT, Nat.reduceLeDiff, not_false_eq_true, not_true_eq_false, Nat.reduceEqDiff, Nat.reduceAdd, reduceCtorEq, and_true, true_and, and_false, false_and, false_or, or_false]
        · obtain ⟨f, f0, f5, f1⟩ := ded_x w3
          refine Or.inr (Or.inr ⟨σ3, τ3, ?_, ?_, w3⟩)
          · dsimp only
            unfold F_9030_12 f_9030_35
            simp only [a1, la_150, p2, a2, n1', z1, w1, gd_tt, oA_arr, px_obj_s, Option.bind_some, Option.map_some, Option.bind_none, eq_self, true_or, or_true, px_av_0, px_av_1, px_av_2, px_av_10, px_av_11, bn, wi_1, wi_2, wl_1, wl_21, wl_22, wr_1, wr_21, wr_22, Sum.elim_inl, Sum.elim_inr, ↓reduceIte, Nat.reduceLT, Nat.reduceLeDiff, not_false_eq_true, not_true_eq_false, Nat.reduceEqDiff, Nat.reduceAdd, reduceCtorEq, and_true, true_and, and_false, false_and, false_or, or_false]
          · unfold F_23_5 f_23_23
            simp only [la_0, im1, n10, p6, z2, w2, z_codes f0 f5 f1, gd_tt, oA_arr, px_obj_s, Option.bind_some, Option.map_some, Option.bind_none, eq_self, true_or, or_true, px_av_0, px_av_1, px_av_2, px_av_10, px_av_11, bn, wi_1, wi_2, wl_1, wl_21, wl_22, wr_1, wr_21, wr_22, Sum.elim_inl, Sum.elim_inr, ↓reduceIte, Nat.reduceLT, Nat.reduceLeDiff, not_false_eq_true, not_true_eq_false, Nat.reduceEqDiff, Nat.reduceAdd, reduceCtorEq, and_true, true_and, and_false, false_and, false_or, or_false]
      · have a2 := mt tp1.mp qa
        rw [decide_eq_false qa, mb_f0] at im1
        by_cases qb : κ k = 23
        · have hkK := q6 (by omega)
          have a1 : ¬ nI 900 ≤ nI i := by rw [nI_leI (by omega) (by omega)]; omega
          have a3 := tp2.mpr qb
          rw [decide_eq_true qb, mb_t1] at im2
          rw [qb] at p6
          have a4 : ¬ nI 4045 = nI 4043 := by decide
          rw [a3] at p2
          obtain ⟨σ2, τ2, z1, z2, z3, -⟩ := j_adv hx h (by omega)
          rcases hop σ2 τ2 (k + 1) C m (false :: ts) z3 (by omega) (by rw [List.length_cons]; omega) with ⟨σ3, τ3, w1, w2, k3, C3, n3, w3, w4, w5⟩ | ⟨σ3, τ3, w1, w2, w3⟩
          · obtain ⟨l1, -⟩ := w3.1.2
            obtain ⟨σ4, τ4, u1, u2, u3⟩ := j_code hx w3 h6 (c := 3001) (us := false :: ts) (Or.inr (Or.inr ⟨by omega, by omega, false, false, false, ts, rfl, rfl, fun q => (by cases q), fun q => (by omega)⟩)) (by omega)
            have u1' : f_10004 tT σ3 143 (nI 2001) = some σ4 := u1
            obtain ⟨hR, -⟩ := cx_c hx w3.1.1.1
            refine Or.inr (Or.inl ⟨σ4, τ4, k3, _, n3 + 1, ?_, ?_, u3, by omega, by omega⟩)
            · dsimp only
              unfold F_9030_12 f_9030_35 f_9030_89
              simp only [a1, la_150, la_140, la_143, p2, a4, z1, w1, n10, rc_150_3 hR, rc_140_1 hR, u1', nI_add, gd_tt, oA_arr, px_obj_s, Option.bind_some, Option.map_some, Option.bind_none, eq_self, true_or, or_true, px_av_0, px_av_1, px_av_2, px_av_10, px_av_11, bn, wi_1, wi_2, wl_1, wl_21, wl_22, wr_1, wr_21, wr_22, Sum.elim_inl, Sum.elim_inr, ↓reduceIte, Nat.reduceLT, Nat.reduceLeDiff, not_false_eq_true, not_true_eq_false, Nat.reduceEqDiff, Nat.reduceAdd, reduceCtorEq, and_true, true_and, and_false, false_and, false_or, or_false]
            · unfold F_23_5 f_23_23
              simp only [la_0, im1, im2, n10, p6, z22, z2, w2, u2, gd_tt, oA_arr, px_obj_s, Option.bind_some, Option.map_some, Option.bind_none, eq_self, true_or, or_true, px_av_0, px_av_1, px_av_2, px_av_10, px_av_11, bn, wi_1, wi_2, wl_1, wl_21, wl_22, wr_1, wr_21, wr_22, Sum.elim_inl, Sum.elim_inr, ↓reduceIte, Nat.reduceLT, Nat.reduceLeDiff, not_false_eq_true, not_true_eq_false, Nat.reduceEqDiff, Nat.reduceAdd, reduceCtorEq, and_true, true_and, and_false, false_and, false_or, or_false]
          · obtain ⟨f, f0, f5, f1⟩ := ded_x w3
            refine Or.inr (Or.inr ⟨σ3, τ3, ?_, ?_, w3⟩)
            · dsimp only
              unfold F_9030_12 f_9030_35
              simp only [a1, la_150, p2, a4, z1, w1, gd_tt, oA_arr, px_obj_s, Option.bind_some, Option.map_some, Option.bind_none, eq_self, true_or, or_true, px_av_0, px_av_1, px_av_2, px_av_10, px_av_11, bn, wi_1, wi_2, wl_1, wl_21, wl_22, wr_1, wr_21, wr_22, Sum.elim_inl, Sum.elim_inr, ↓reduceIte, Nat.reduceLT, Nat.reduceLeDiff, not_false_eq_true, not_true_eq_false, Nat.reduceEqDiff, Nat.reduceAdd, reduceCtorEq, and_true, true_and, and_false, false_and, false_or, or_false]
            · unfold F_23_5 f_23_23
              simp only [la_0, im1, im2, n10, p6, z22, z2, w2, z_codes f0 f5 f1, gd_tt, oA_arr, px_obj_s, Option.bind_some, Option.map_some, Option.bind_none, eq_self, true_or, or_true, px_av_0, px_av_1, px_av_2, px_av_10, px_av_11, bn, wi_1, wi_2, wl_1, wl_21, wl_22, wr_1, wr_21, wr_22, Sum.elim_inl, Sum.elim_inr, ↓reduceIte, Nat.reduceLT, Nat.reduceLeDiff, not_false_eq_true, not_true_eq_false, Nat.reduceEqDiff, Nat.reduceAdd, reduceCtorEq, and_true, true_and, and_false, false_and, false_or, or_false]
        · have a3 := mt tp2.mp qb
          rw [decide_eq_false qb, mb_f0] at im2
          refine Or.inl ⟨?_, ?_⟩
          · dsimp only
            unfold F_9030_12 f_9030_35
            by_cases a1 : nI 900 ≤ nI i
            · simp only [a1, gd_tt, oA_arr, px_obj_s, Option.bind_some, Option.map_some, Option.bind_none, eq_self, true_or, or_true, px_av_0, px_av_1, px_av_2, px_av_10, px_av_11, bn, wi_1, wi_2, wl_1, wl_21, wl_22, wr_1, wr_21, wr_22, Sum.elim_inl, Sum.elim_inr, ↓reduceIte, Nat.reduceLT, Nat.reduceLeDiff, not_false_eq_true, not_true_eq_false, Nat.reduceEqDiff, Nat.reduceAdd, reduceCtorEq, and_true, true_and, and_false, false_and, false_or, or_false]
            · simp only [a1, la_150, p2, a2, a3, gd_tt, oA_arr, px_obj_s, Option.bind_some, Option.map_some, Option.bind_none, eq_self, true_or, or_true, px_av_0, px_av_1, px_av_2, px_av_10, px_av_11, bn, wi_1, wi_2, wl_1, wl_21, wl_22, wr_1, wr_21, wr_22, Sum.elim_inl, Sum.elim_inr, ↓reduceIte, Nat.reduceLT, Nat.reduceLeDiff, not_false_eq_true, not_true_eq_false, Nat.reduceEqDiff, Nat.reduceAdd, reduceCtorEq, and_true, true_and, and_false, false_and, false_or, or_false]
          · unfold F_23_5
            simp only [la_0, im1, im2, gd_tt, oA_arr, px_obj_s, Option.bind_some, Option.map_some, Option.bind_none, eq_self, true_or, or_true, px_av_0, px_av_1, px_av_2, px_av_10, px_av_11, bn, wi_1, wi_2, wl_1, wl_21, wl_22, wr_1, wr_21, wr_22, Sum.elim_inl, Sum.elim_inr, ↓reduceIte, Nat.reduceLT, Nat.reduceLeDiff, not_false_eq_true, not_true_eq_false, Nat.reduceEqDiff, Nat.reduceAdd, reduceCtorEq, and_true, true_and, and_false, false_and, false_or, or_false]) K 0 σ1 τ1 k1 C1 n1 (by omega) y3 (by omega) (by omega)
    rcases lp with ⟨σ2, τ2, z1, z2, k2, C2, n2, z3, z4, z5⟩ | ⟨σ2, τ2, z1, z2, z3⟩
    · refine Or.inl ⟨σ2, τ2, ?_, ?_, k2, C2, n2, z3, by omega, by omega⟩
      · unfold F_9030 f_9030_12
        simp only [la_150, y1, n10, z1, gd_tt, oA_arr, px_obj_s, Option.bind_some, Option.map_some, Option.bind_none, eq_self, true_or, or_true, px_av_0, px_av_1, px_av_2, px_av_10, px_av_11, bn, wi_1, wi_2, wl_1, wl_21, wl_22, wr_1, wr_21, wr_22, Sum.elim_inl, Sum.elim_inr, ↓reduceIte, Nat.reduceLT, Nat.reduceLeDiff, not_false_eq_true, not_true_eq_false, Nat.reduceEqDiff, Nat.reduceAdd, reduceCtorEq, and_true, true_and, and_false, false_and, false_or, or_false]
      · unfold F_23 f_23_5
        simp only [la_0, y2, z2, gd_tt, oA_arr, px_obj_s, Option.bind_some, Option.map_some, Option.bind_none, eq_self, true_or, or_true, px_av_0, px_av_1, px_av_2, px_av_10, px_av_11, bn, wi_1, wi_2, wl_1, wl_21, wl_22, wr_1, wr_21, wr_22, Sum.elim_inl, Sum.elim_inr, ↓reduceIte, Nat.reduceLT, Nat.reduceLeDiff, not_false_eq_true, not_true_eq_false, Nat.reduceEqDiff, Nat.reduceAdd, reduceCtorEq, and_true, true_and, and_false, false_and, false_or, or_false]
    · refine Or.inr ⟨σ2, τ2, ?_, ?_, z3⟩
      · unfold F_9030 f_9030_12
        simp only [la_150, y1, n10, z1, gd_tt, oA_arr, px_obj_s, Option.bind_some, Option.map_some, Option.bind_none, eq_self, true_or, or_true, px_av_0, px_av_1, px_av_2, px_av_10, px_av_11, bn, wi_1, wi_2, wl_1, wl_21, wl_22, wr_1, wr_21, wr_22, Sum.elim_inl, Sum.elim_inr, ↓reduceIte, Nat.reduceLT, Nat.reduceLeDiff, not_false_eq_true, not_true_eq_false, Nat.reduceEqDiff, Nat.reduceAdd, reduceCtorEq, and_true, true_and, and_false, false_and, false_or, or_false]
      · unfold F_23 f_23_5
        simp only [la_0, y2, z2, gd_tt, oA_arr, px_obj_s, Option.bind_some, Option.map_some, Option.bind_none, eq_self, true_or, or_true, px_av_0, px_av_1, px_av_2, px_av_10, px_av_11, bn, wi_1, wi_2, wl_1, wl_21, wl_22, wr_1, wr_21, wr_22, Sum.elim_inl, Sum.elim_inr, ↓reduceIte, Nat.reduceLT, Nat.reduceLeDiff, not_false_eq_true, not_true_eq_false, Nat.reduceEqDiff, Nat.reduceAdd, reduceCtorEq, and_true, true_and, and_false, false_and, false_or, or_false]
  · refine Or.inr ⟨σ1, τ1, ?_, ?_, y3⟩
    · unfold F_9030
      simp only [la_150, y1, gd_tt, oA_arr, px_obj_s, Option.bind_some, Option.map_some, Option.bind_none, eq_self, true_or, or_true, px_av_0, px_av_1, px_av_2, px_av_10, px_av_11, bn, wi_1, wi_2, wl_1, wl_21, wl_22, wr_1, wr_21, wr_22, Sum.elim_inl, Sum.elim_inr, ↓reduceIte, Nat.reduceLT, Nat.reduceLeDiff, not_false_eq_true, not_true_eq_false, Nat.reduceEqDiff, Nat.reduceAdd, reduceCtorEq, and_true, true_and, and_false, false_and, false_or, or_false]
    · unfold F_23 f_23_5
      simp only [la_0, y2, lp_end (F := fun s => F_23_5 tT m1 m2 m3 0 (nI x) s) (hdz σ1 τ1 y3), gd_tt, oA_arr, px_obj_s, Option.bind_some, Option.map_some, Option.bind_none, eq_self, true_or, or_true, px_av_0, px_av_1, px_av_2, px_av_10, px_av_11, bn, wi_1, wi_2, wl_1, wl_21, wl_22, wr_1, wr_21, wr_22, Sum.elim_inl, Sum.elim_inr, ↓reduceIte, Nat.reduceLT, Nat.reduceLeDiff, not_false_eq_true, not_true_eq_false, Nat.reduceEqDiff, Nat.reduceAdd, reduceCtorEq, and_true, true_and, and_false, false_and, false_or, or_false]
/-- sums at any depth -/
theorem j_sums (hx : cx σ0 τ0 b e K pl bh κ v) (h6 : nr < 6) : ∀ y x, x + y = 6 → ∀ d1 d2, 3 * y + 3 ≤ d1 → 3 * y + 3 ≤ d2 → pce σ0 τ0 K pl bh κ v n B nr S ln (f_9030 tT d1) (f_23 tT d2) false x (49 + 2 * x) := by
  intro y
  induction y with
  | zero =>
    intro x hxy d1 d2 h1 h2
    obtain ⟨d1, rfl⟩ : ∃ d, d1 = d + 3 := ⟨d1 - 3, by omega⟩
    obtain ⟨d2, rfl⟩ : ∃ d, d2 = d + 3 := ⟨d2 - 3, by omega⟩
    rw [f_9030_S, f_23_S]
    refine j_sum hx h6 ?_
    rw [f_9031_S, f_22_S]
    refine j_term hx h6 ?_
    rw [f_9032_S, f_21_S]
    exact j_atom hx h6 (by omega) (by omega) (fun h => by omega)
  | succ y ih =>
    intro x hxy d1 d2 h1 h2
    obtain ⟨d1, rfl⟩ : ∃ d, d1 = d + 3 := ⟨d1 - 3, by omega⟩
    obtain ⟨d2, rfl⟩ : ∃ d, d2 = d + 3 := ⟨d2 - 3, by omega⟩
    rw [f_9030_S, f_23_S]
    refine j_sum hx h6 ?_
    rw [f_9031_S, f_22_S]
    refine j_term hx h6 ?_
    rw [f_9032_S, f_21_S]
    exact j_atom hx h6 (by omega) (by omega) (fun h => pce_le (ih (x + 1) (by omega) d1 d2 (by omega) (by omega)) (by omega))
end
