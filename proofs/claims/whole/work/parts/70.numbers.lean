/-! numbers, write, copy: class and model alike -/
def cutv (s : Nat) (v : Int64) : Int64 := if s = 0 then ((v.toInt32).toInt8.toInt32).toInt64 else if s = 1 then ((v.toInt32).toInt16.toInt32).toInt64 else if s = 2 then (v.toInt32).toInt64 else v
def upN (N : Nat → Nat → Int64) (r k : Nat) (w : Int64) : Nat → Nat → Int64 := fun r' k' => if r' = r ∧ k' = k then w else N r' k'
def upK (K : Nat → Option (Nat × Nat)) (r s m : Nat) : Nat → Option (Nat × Nat) := fun r' => if r' = r then some (s, m) else K r'
def RwC (l _ : Nat) : Bool := l == 103 || l == 104 || l == 105
def RwM (l j : Nat) : Bool := (l == 0 && j == 0) || l == 35 || l == 36 || l == 37
theorem upl_s {f : Nat → Nat → Int64} {l i j : Nat} {v : Int64} : px_up f l i v l j = if j = i then v else f l j := by simp [px_up]
section
variable {σ τ : px_M} {n : Nat} {B : Nat → Nat} {K : Nat → Option (Nat × Nat)} {N : Nat → Nat → Int64}
theorem cut_m (σ : px_M) {s : Nat} (hs : s ≤ 3) (v : Int64) : f_127 tT σ v (nI s) = some (cutv s v) := by
  have hq : s = 0 ∨ s = 1 ∨ s = 2 ∨ s = 3 := by omega
  rcases hq with rfl | rfl | rfl | rfl <;> rfl
theorem cut_c (σ : px_M) {s : Nat} (hs : s ≤ 3) (v : Int64) : f_12068 tT σ (nI s) v = some (cutv s v) := by
  have hq : s = 0 ∨ s = 1 ∨ s = 2 ∨ s = 3 := by omega
  rcases hq with rfl | rfl | rfl | rfl <;> rfl
theorem cr4_put (hk : cr4 σ K N) {r k : Nat} (hk40 : k < 40) (w : Int64) : cr4 (px_wl σ 103 (40 * r + k) w) K (upN N r k w) := fun r' hr' => by
  rcases hk r' hr' with ⟨q1, q2⟩ | ⟨s, m, q1, q2, q3, q4, q5⟩
  · exact Or.inl ⟨q1, q2⟩
  · refine Or.inr ⟨s, m, q1, q2, q3, q4, q5.1, fun j hj => ?_⟩
    show px_up σ.2.1 103 (40 * r + k) w 103 (40 * r' + j) = _
    rw [upl_s]
    unfold upN
    by_cases h : r' = r ∧ j = k
    · rw [if_pos h, if_pos (by omega)]
    · rw [if_neg h, if_neg (by omega)]; exact q5.2 j hj
theorem mr4_put (hk : mr4 σ K N) {r k : Nat} (hk40 : k < 40) (w : Int64) : mr4 (px_wl σ 37 (40 * r + k) w) K (upN N r k w) := fun r' hr' => by
  rcases hk r' hr' with ⟨q1, q2⟩ | ⟨s, m, q1, q2, q3, q4, q5⟩
  · exact Or.inl ⟨q1, q2⟩
  · refine Or.inr ⟨s, m, q1, q2, q3, q4, q5.1, fun j hj => ?_⟩
    show px_up σ.2.1 37 (40 * r + k) w 37 (40 * r' + j) = _
    rw [upl_s]
    unfold upN
    by_cases h : r' = r ∧ j = k
    · rw [if_pos h, if_pos (by omega)]
    · rw [if_neg h, if_neg (by omega)]; exact q5.2 j hj
theorem c_put (hR : cR σ.2.2) (hk : cr4 σ K N) {r s m k : Nat} (hr : r < 4) (hK : K r = some (s, m)) (hkm : k < m) (v : Int64) : ∃ υ, f_12067 tT σ 100 (nI r) (nI k) v = some υ ∧ fr RwC σ υ ∧ cr4 υ K (upN N r k (cutv s v)) := by
  rcases hk r hr with ⟨q1, -⟩ | ⟨s', m', q1, q2, q3, q4, q5⟩
  · rw [hK] at q1; cases q1
  · rw [hK] at q1
    cases q1
    refine ⟨px_wl σ 103 (40 * r + k) (cutv s v), ?_, fr_wl (fr_rf _ _) _ rfl, cr4_put hk (by omega) _⟩
    have e : r * 40 + k = 40 * r + k := by omega
    have a1 : ¬ nI (40 * r + k) < nI 0 := by rw [nI_ltI (by omega) (by omega)]; omega
    have a2 : ¬ nI 160 ≤ nI (40 * r + k) := by rw [nI_leI (by omega) (by omega)]; omega
    have c1 : vp_in (nI r) 4 := (vp_in_eq (by omega)).mpr (by omega)
    have c2 : (nI r).toNatClampNeg = r := nI_clamp (by omega)
    have c3 : vp_in (nI (40 * r + k)) 160 := (vp_in_eq (by omega)).mpr (by omega)
    have c4 : (nI (40 * r + k)).toNatClampNeg = 40 * r + k := nI_clamp (by omega)
    simp only [f_12067, f_12067_8, pk_mul, nI_add, e, a1, a2, la_100, la_103, la_104, rc_100_13 hR, rc_100_14 hR, gd_tt, oA_arr, px_obj_s, Option.bind_some, Option.map_some, Option.bind_none, eq_self, true_or, or_true, px_av_0, px_av_1, px_av_2, px_av_10, px_av_11, bn, wi_1, wi_2, wl_1, wl_21, wl_22, wr_1, wr_21, wr_22, Sum.elim_inl, Sum.elim_inr, ↓reduceIte, Nat.reduceLT, Nat.reduceLeDiff, not_false_eq_true, not_true_eq_false, Nat.reduceEqDiff, Nat.reduceAdd, reduceCtorEq, and_true, true_and, and_false, false_and, false_or, or_false, c1, c2, q4, cut_c σ q2, c3, c4]
/-- numbers -/
theorem a_numbers (hR : cR σ.2.2) (hk : cr4 σ K N) (x y z : Int32) : ∃ r σ' K' N', f_12049 tT σ 100 x y z = some (r, σ') ∧ fr RwC σ σ' ∧ cr4 σ' K' N' ∧ ∀ τ, mR τ.2.2 → mr4 τ K N → ∃ υ, f_128 tT τ 0 x y z = some (r, υ) ∧ fr RwM τ υ ∧ mr4 υ K' N' := by
  have thr : ∀ τ : px_M, fr RwM τ (px_wi τ 0 0 (nI 0)) := fun τ => fr_wi (fr_rf _ _) _ rfl
  have same : ∀ r, f_12049 tT σ 100 x y z = some (r, σ) → (∀ τ, mR τ.2.2 → f_128 tT τ 0 x y z = some (r, px_wi τ 0 0 (nI 0))) → ∃ r σ' K' N', f_12049 tT σ 100 x y z = some (r, σ') ∧ fr RwC σ σ' ∧ cr4 σ' K' N' ∧ ∀ τ, mR τ.2.2 → mr4 τ K N → ∃ υ, f_128 tT τ 0 x y z = some (r, υ) ∧ fr RwM τ υ ∧ mr4 υ K' N' := fun r h1 h2 => ⟨r, σ, K, N, h1, fr_rf _ _, hk, fun τ hRm hm => ⟨_, h2 τ hRm, thr τ, mr4_thr hm⟩⟩
  have w0 := fun (ω : px_M) (v : Int32) (hi : Nat) (hh : hi < 2 ^ 31) => e_withinN ω v (lo := 0) (hi := hi) (by omega) hh
  rcases c_isRow σ x with ⟨r, hr, rfl, h1⟩ | ⟨hno, h1⟩
  · have wx : ∀ ω, f_2 tT ω (nI r).toInt64 (lN 0) (lN 3) = some (nI 1) := fun ω => by
      rw [w0 ω (nI r) 3 (by omega), decide_eq_true (by rw [nI_toInt (by omega)]; omega), mb_t1]
    rcases rg_cases y 0 3 (by omega) with ⟨s, -, hs, rfl⟩ | hny
    · have wy : ∀ ω, f_2 tT ω (nI s).toInt64 (lN 0) (lN 3) = some (nI 1) := fun ω => by
        rw [w0 ω (nI s) 3 (by omega), decide_eq_true (by rw [nI_toInt (by omega)]; omega), mb_t1]
      have b1 : ¬ nI s < nI 0 := by rw [nI_ltI (by omega) (by omega)]; omega
      have b2 : nI s < nI 4 := by rw [nI_ltI (by omega) (by omega)]; omega
      rcases rg_cases z 0 40 (by omega) with ⟨m, -, hm, rfl⟩ | hnz
      · have wz : ∀ ω, f_2 tT ω (nI m).toInt64 (lN 0) (lN 40) = some (nI 1) := fun ω => by
          rw [w0 ω (nI m) 40 (by omega), decide_eq_true (by rw [nI_toInt (by omega)]; omega), mb_t1]
        have b3 : ¬ nI m < nI 0 := by rw [nI_ltI (by omega) (by omega)]; omega
        have b4 : nI m ≤ nI 40 := by rw [nI_leI (by omega) (by omega)]; omega
        have c1 : vp_in (nI r) 4 := (vp_in_eq (by omega)).mpr (by omega)
        have c2 : (nI r).toNatClampNeg = r := nI_clamp (by omega)
        have e40 : ∀ j, r * 40 + j = 40 * r + j := fun j => by omega
        -- the class's loop
        have lc : ∀ ρ : px_M, cR ρ.2.2 → ∃ υ, f_12049_49 tT 100 (nI r) (nI m) (nI 0) ρ = some (nI 0, υ) ∧ fr (on 103) ρ υ ∧ (∀ j, j < m → υ.2.1 103 (40 * r + j) = lN 0) ∧ ∀ j, (j < 40 * r ∨ 40 * r + m ≤ j) → υ.2.1 103 j = ρ.2.1 103 j := by
          intro ρ hRρ
          unfold f_12049_49
          obtain ⟨b, q1, υ, rfl, q2⟩ := lp_for (F := fun s : Int32 × px_M => F_12049_49 tT 100 (nI r) (nI m) s.1 s.2) (fun j q => ∃ ω, q = (nI j, ω) ∧ fr (on 103) ρ ω ∧ (∀ i, i < j → ω.2.1 103 (40 * r + i) = lN 0) ∧ ∀ i, (i < 40 * r ∨ 40 * r + m ≤ i) → ω.2.1 103 i = ρ.2.1 103 i) (fun b => ∃ υ, b = (nI 0, υ) ∧ fr (on 103) ρ υ ∧ (∀ j, j < m → υ.2.1 103 (40 * r + j) = lN 0) ∧ ∀ j, (j < 40 * r ∨ 40 * r + m ≤ j) → υ.2.1 103 j = ρ.2.1 103 j) m (fun j q hj hI => by
            obtain ⟨ω, rfl, g1, g2, g3⟩ := hI
            have a1 : ¬ nI m ≤ nI j := by rw [nI_leI (by omega) (by omega)]; omega
            have c3 : vp_in (nI (40 * r + j)) 160 := (vp_in_eq (by omega)).mpr (by omega)
            have c4 : (nI (40 * r + j)).toNatClampNeg = 40 * r + j := nI_clamp (by omega)
            refine ⟨(nI (j + 1), px_wl ω 103 (40 * r + j) (lN 0)), ?_, _, rfl, fr_wl g1 _ rfl, fun i hi => ?_, fun i hi => ?_⟩
            · dsimp only
              unfold F_12049_49
              simp only [a1, la_100, la_103, rc_100_13 (cR_fr g1 hRρ), gd_tt, oA_arr, px_obj_s, Option.bind_some, Option.map_some, Option.bind_none, eq_self, true_or, or_true, px_av_0, px_av_1, px_av_2, px_av_10, px_av_11, bn, wi_1, wi_2, wl_1, wl_21, wl_22, wr_1, wr_21, wr_22, Sum.elim_inl, Sum.elim_inr, ↓reduceIte, Nat.reduceLT, Nat.reduceLeDiff, not_false_eq_true, not_true_eq_false, Nat.reduceEqDiff, Nat.reduceAdd, reduceCtorEq, and_true, true_and, and_false, false_and, false_or, or_false, pk_mul, nI_add, e40, c3, c4]
            · show px_up ω.2.1 103 (40 * r + j) _ 103 (40 * r + i) = _
              rw [upl_s]
              by_cases q : i = j
              · rw [if_pos (by omega)]
              · rw [if_neg (by omega)]; exact g2 i (by omega)
            · show px_up ω.2.1 103 (40 * r + j) _ 103 i = _
              rw [upl_s, if_neg (by omega)]; exact g3 i hi) (fun q hI => by
            obtain ⟨ω, rfl, g1, g2, g3⟩ := hI
            have a1 : nI m ≤ nI m := by rw [nI_leI (by omega) (by omega)]; omega
            refine ⟨(nI 0, ω), ?_, ω, rfl, g1, g2, g3⟩
            dsimp only
            unfold F_12049_49
            rw [if_pos a1]) 0 (nI 0, ρ) (by omega) ⟨ρ, rfl, fr_rf _ _, fun i hi => by omega, fun _ _ => rfl⟩
          exact ⟨υ, q1, q2⟩
        have lm : ∀ ρ : px_M, mR ρ.2.2 → ∃ υ, f_128_64 tT 0 (nI r) (nI m) (nI 0) ρ = some (nI 0, υ) ∧ fr (on 37) ρ υ ∧ (∀ j, j < m → υ.2.1 37 (40 * r + j) = lN 0) ∧ ∀ j, (j < 40 * r ∨ 40 * r + m ≤ j) → υ.2.1 37 j = ρ.2.1 37 j := by
          intro ρ hRρ
          unfold f_128_64
          obtain ⟨b, q1, υ, rfl, q2⟩ := lp_for (F := fun s : Int32 × px_M => F_128_64 tT 0 (nI r) (nI m) s.1 s.2) (fun j q => ∃ ω, q = (nI j, ω) ∧ fr (on 37) ρ ω ∧ (∀ i, i < j → ω.2.1 37 (40 * r + i) = lN 0) ∧ ∀ i, (i < 40 * r ∨ 40 * r + m ≤ i) → ω.2.1 37 i = ρ.2.1 37 i) (fun b => ∃ υ, b = (nI 0, υ) ∧ fr (on 37) ρ υ ∧ (∀ j, j < m → υ.2.1 37 (40 * r + j) = lN 0) ∧ ∀ j, (j < 40 * r ∨ 40 * r + m ≤ j) → υ.2.1 37 j = ρ.2.1 37 j) m (fun j q hj hI => by
            obtain ⟨ω, rfl, g1, g2, g3⟩ := hI
            have a1 : ¬ nI m ≤ nI j := by rw [nI_leI (by omega) (by omega)]; omega
            have c3 : vp_in (nI (40 * r + j)) 160 := (vp_in_eq (by omega)).mpr (by omega)
            have c4 : (nI (40 * r + j)).toNatClampNeg = 40 * r + j := nI_clamp (by omega)
            refine ⟨(nI (j + 1), px_wl ω 37 (40 * r + j) (lN 0)), ?_, _, rfl, fr_wl g1 _ rfl, fun i hi => ?_, fun i hi => ?_⟩
            · dsimp only
              unfold F_128_64
              simp only [a1, la_0, la_37, rm_0_37 (mR_fr g1 hRρ), gd_tt, oA_arr, px_obj_s, Option.bind_some, Option.map_some, Option.bind_none, eq_self, true_or, or_true, px_av_0, px_av_1, px_av_2, px_av_10, px_av_11, bn, wi_1, wi_2, wl_1, wl_21, wl_22, wr_1, wr_21, wr_22, Sum.elim_inl, Sum.elim_inr, ↓reduceIte, Nat.reduceLT, Nat.reduceLeDiff, not_false_eq_true, not_true_eq_false, Nat.reduceEqDiff, Nat.reduceAdd, reduceCtorEq, and_true, true_and, and_false, false_and, false_or, or_false, pk_mul, nI_add, c3, c4]
            · show px_up ω.2.1 37 (40 * r + j) _ 37 (40 * r + i) = _
              rw [upl_s]
              by_cases q : i = j
              · rw [if_pos (by omega)]
              · rw [if_neg (by omega)]; exact g2 i (by omega)
            · show px_up ω.2.1 37 (40 * r + j) _ 37 i = _
              rw [upl_s, if_neg (by omega)]; exact g3 i hi) (fun q hI => by
            obtain ⟨ω, rfl, g1, g2, g3⟩ := hI
            have a1 : nI m ≤ nI m := by rw [nI_leI (by omega) (by omega)]; omega
            refine ⟨(nI 0, ω), ?_, ω, rfl, g1, g2, g3⟩
            dsimp only
            unfold F_128_64
            rw [if_pos a1]) 0 (nI 0, ρ) (by omega) ⟨ρ, rfl, fr_rf _ _, fun i hi => by omega, fun _ _ => rfl⟩
          exact ⟨υ, q1, q2⟩
        obtain ⟨υ, q1, q2, q3, q4⟩ := lc (px_wi (px_wi σ 104 r (nI s)) 105 r (nI m)) hR
        refine ⟨nI 0, υ, upK K r s m, fun r' k' => if r' = r then lN 0 else N r' k', ?_, fr_tr (fr_wi (fr_wi (fr_rf _ _) _ rfl) _ rfl) (fr_mono q2 (fun l j h => by simp only [RwC, Bool.or_eq_false_iff] at h; exact h.1.1)), fun r' hr' => ?_, fun τ hRm hmr => ?_⟩
        · simp only [f_12049, h1, n10, b1, b2, b3, b4, la_100, la_104, la_105, rc_100_14 hR, rc_100_15 hR, gd_tt, oA_arr, px_obj_s, Option.bind_some, Option.map_some, Option.bind_none, eq_self, true_or, or_true, px_av_0, px_av_1, px_av_2, px_av_10, px_av_11, bn, wi_1, wi_2, wl_1, wl_21, wl_22, wr_1, wr_21, wr_22, Sum.elim_inl, Sum.elim_inr, ↓reduceIte, Nat.reduceLT, Nat.reduceLeDiff, not_false_eq_true, not_true_eq_false, Nat.reduceEqDiff, Nat.reduceAdd, reduceCtorEq, and_true, true_and, and_false, false_and, false_or, or_false, c1, c2, q1]
        · have v5 : υ.1 105 r' = if r' = r then nI m else σ.1 105 r' := by
            rw [q2.1 105 r' rfl]
            show px_up (px_up σ.1 104 r (nI s)) 105 r (nI m) 105 r' = _
            rw [up_s, px_up_row (by decide)]
          have v4 : υ.1 104 r' = if r' = r then nI s else σ.1 104 r' := by
            rw [q2.1 104 r' rfl, wi_n (by decide)]
            show px_up σ.1 104 r (nI s) 104 r' = _
            rw [up_s]
          by_cases hrr : r' = r
          · subst hrr
            refine Or.inr ⟨s, m, by unfold upK; rw [if_pos rfl], hs, hm, by rw [v4, if_pos rfl], by rw [v5, if_pos rfl], fun j hj => ?_⟩
            dsimp only; rw [if_pos rfl]; exact q3 j hj
          · have hKr : upK K r s m r' = K r' := by unfold upK; rw [if_neg hrr]
            rw [hKr, v4, v5, if_neg hrr, if_neg hrr]
            rcases hk r' hr' with ⟨z1, z2⟩ | ⟨s', m', z1, z2, z3, z4, z5⟩
            · exact Or.inl ⟨z1, z2⟩
            · refine Or.inr ⟨s', m', z1, z2, z3, z4, ?_, fun j hj => ?_⟩
              · rw [v5, if_neg hrr]; exact z5.1
              · dsimp only; rw [if_neg hrr, q4 _ (by omega)]; exact z5.2 j hj
        · have hmt := mr4_thr hmr
          have hRt : mR (px_wi τ 0 0 (nI 0)).2.2 := hRm
          have hft := thr τ
          show ∃ υ, f_128 tT τ 0 (nI r) (nI s) (nI m) = _ ∧ _
          unfold f_128
          generalize px_wi τ 0 0 (nI 0) = ω at hmt hRt hft ⊢
          obtain ⟨χ, p1, p2, p3, p4⟩ := lm (px_wi (px_wi ω 35 r (nI s)) 36 r (nI m)) hRt
          refine ⟨χ, ?_, fr_tr hft (fr_tr (fr_wi (fr_wi (fr_rf _ _) _ rfl) _ rfl) (fr_mono p2 (fun l j h => by simp only [RwM, Bool.or_eq_false_iff] at h; exact h.2))), fun r' hr' => ?_⟩
          · simp only [f_128_32, wx, wy, wz, n10, la_0, la_35, la_36, rm_0_35 hRt, rm_0_36 hRt, gd_tt, oA_arr, px_obj_s, Option.bind_some, Option.map_some, Option.bind_none, eq_self, true_or, or_true, px_av_0, px_av_1, px_av_2, px_av_10, px_av_11, bn, wi_1, wi_2, wl_1, wl_21, wl_22, wr_1, wr_21, wr_22, Sum.elim_inl, Sum.elim_inr, ↓reduceIte, Nat.reduceLT, Nat.reduceLeDiff, not_false_eq_true, not_true_eq_false, Nat.reduceEqDiff, Nat.reduceAdd, reduceCtorEq, and_true, true_and, and_false, false_and, false_or, or_false, c1, c2, p1]
          · have v5 : χ.1 36 r' = if r' = r then nI m else ω.1 36 r' := by
              rw [p2.1 36 r' rfl]
              show px_up (px_up ω.1 35 r (nI s)) 36 r (nI m) 36 r' = _
              rw [up_s, px_up_row (by decide)]
            have v4 : χ.1 35 r' = if r' = r then nI s else ω.1 35 r' := by
              rw [p2.1 35 r' rfl, wi_n (by decide)]
              show px_up ω.1 35 r (nI s) 35 r' = _
              rw [up_s]
            by_cases hrr : r' = r
            · subst hrr
              refine Or.inr ⟨s, m, by unfold upK; rw [if_pos rfl], hs, hm, by rw [v4, if_pos rfl], by rw [v5, if_pos rfl], fun j hj => ?_⟩
              dsimp only; rw [if_pos rfl]; exact p3 j hj
            · have hKr : upK K r s m r' = K r' := by unfold upK; rw [if_neg hrr]
              rw [hKr, v4, if_neg hrr]
              rcases hmt r' hr' with ⟨z1, z2⟩ | ⟨s', m', z1, z2, z3, z4, z5⟩
              · exact Or.inl ⟨z1, z2⟩
              · refine Or.inr ⟨s', m', z1, z2, z3, z4, ?_, fun j hj => ?_⟩
                · rw [v5, if_neg hrr]; exact z5.1
                · dsimp only; rw [if_neg hrr, p4 _ (by omega)]; exact z5.2 j hj
      · refine same (-3) ?_ (fun τ hRm => ?_)
        · by_cases b3 : z < nI 0
          · simp only [f_12049, f_12049_29, h1, n10, b1, b2, b3, gd_tt, oA_arr, px_obj_s, Option.bind_some, Option.map_some, Option.bind_none, eq_self, true_or, or_true, px_av_0, px_av_1, px_av_2, px_av_10, px_av_11, bn, wi_1, wi_2, wl_1, wl_21, wl_22, wr_1, wr_21, wr_22, Sum.elim_inl, Sum.elim_inr, ↓reduceIte, Nat.reduceLT, Nat.reduceLeDiff, not_false_eq_true, not_true_eq_false, Nat.reduceEqDiff, Nat.reduceAdd, reduceCtorEq, and_true, true_and, and_false, false_and, false_or, or_false]
          · have b4 : ¬ z ≤ nI 40 := by
              rw [fa_lt, nI_toInt (by omega)] at b3
              rw [fa_le, nI_toInt (by omega)]
              omega
            simp only [f_12049, f_12049_29, h1, n10, b1, b2, b3, b4, gd_tt, oA_arr, px_obj_s, Option.bind_some, Option.map_some, Option.bind_none, eq_self, true_or, or_true, px_av_0, px_av_1, px_av_2, px_av_10, px_av_11, bn, wi_1, wi_2, wl_1, wl_21, wl_22, wr_1, wr_21, wr_22, Sum.elim_inl, Sum.elim_inr, ↓reduceIte, Nat.reduceLT, Nat.reduceLeDiff, not_false_eq_true, not_true_eq_false, Nat.reduceEqDiff, Nat.reduceAdd, reduceCtorEq, and_true, true_and, and_false, false_and, false_or, or_false]
        · have wz := w0 (px_wi τ 0 0 (nI 0)) z 40 (by omega)
          rw [decide_eq_false hnz, mb_f0] at wz
          simp only [f_128, f_128_32, wx, wy, wz, n10, la_0, gd_tt, oA_arr, px_obj_s, Option.bind_some, Option.map_some, Option.bind_none, eq_self, true_or, or_true, px_av_0, px_av_1, px_av_2, px_av_10, px_av_11, bn, wi_1, wi_2, wl_1, wl_21, wl_22, wr_1, wr_21, wr_22, Sum.elim_inl, Sum.elim_inr, ↓reduceIte, Nat.reduceLT, Nat.reduceLeDiff, not_false_eq_true, not_true_eq_false, Nat.reduceEqDiff, Nat.reduceAdd, reduceCtorEq, and_true, true_and, and_false, false_and, false_or, or_false]
    · refine same (-2) ?_ (fun τ hRm => ?_)
      · by_cases b1 : y < nI 0
        · simp only [f_12049, h1, n10, b1, gd_tt, oA_arr, px_obj_s, Option.bind_some, Option.map_some, Option.bind_none, eq_self, true_or, or_true, px_av_0, px_av_1, px_av_2, px_av_10, px_av_11, bn, wi_1, wi_2, wl_1, wl_21, wl_22, wr_1, wr_21, wr_22, Sum.elim_inl, Sum.elim_inr, ↓reduceIte, Nat.reduceLT, Nat.reduceLeDiff, not_false_eq_true, not_true_eq_false, Nat.reduceEqDiff, Nat.reduceAdd, reduceCtorEq, and_true, true_and, and_false, false_and, false_or, or_false]
        · have b2 : ¬ y < nI 4 := by
            rw [fa_lt, nI_toInt (by omega)] at b1 ⊢
            omega
          simp only [f_12049, h1, n10, b1, b2, gd_tt, oA_arr, px_obj_s, Option.bind_some, Option.map_some, Option.bind_none, eq_self, true_or, or_true, px_av_0, px_av_1, px_av_2, px_av_10, px_av_11, bn, wi_1, wi_2, wl_1, wl_21, wl_22, wr_1, wr_21, wr_22, Sum.elim_inl, Sum.elim_inr, ↓reduceIte, Nat.reduceLT, Nat.reduceLeDiff, not_false_eq_true, not_true_eq_false, Nat.reduceEqDiff, Nat.reduceAdd, reduceCtorEq, and_true, true_and, and_false, false_and, false_or, or_false]
      · have wy := w0 (px_wi τ 0 0 (nI 0)) y 3 (by omega)
        rw [decide_eq_false hny, mb_f0] at wy
        simp only [f_128, f_128_29, wx, wy, n10, la_0, gd_tt, oA_arr, px_obj_s, Option.bind_some, Option.map_some, Option.bind_none, eq_self, true_or, or_true, px_av_0, px_av_1, px_av_2, px_av_10, px_av_11, bn, wi_1, wi_2, wl_1, wl_21, wl_22, wr_1, wr_21, wr_22, Sum.elim_inl, Sum.elim_inr, ↓reduceIte, Nat.reduceLT, Nat.reduceLeDiff, not_false_eq_true, not_true_eq_false, Nat.reduceEqDiff, Nat.reduceAdd, reduceCtorEq, and_true, true_and, and_false, false_and, false_or, or_false]
  · refine same (-2) ?_ (fun τ hRm => ?_)
    · simp only [f_12049, h1, gd_tt, oA_arr, px_obj_s, Option.bind_some, Option.map_some, Option.bind_none, eq_self, true_or, or_true, px_av_0, px_av_1, px_av_2, px_av_10, px_av_11, bn, wi_1, wi_2, wl_1, wl_21, wl_22, wr_1, wr_21, wr_22, Sum.elim_inl, Sum.elim_inr, ↓reduceIte, Nat.reduceLT, Nat.reduceLeDiff, not_false_eq_true, not_true_eq_false, Nat.reduceEqDiff, Nat.reduceAdd, reduceCtorEq, and_true, true_and, and_false, false_and, false_or, or_false]
    · have wx := w0 (px_wi τ 0 0 (nI 0)) x 3 (by omega)
      rw [decide_eq_false hno, mb_f0] at wx
      simp only [f_128, f_128_29, wx, la_0, gd_tt, oA_arr, px_obj_s, Option.bind_some, Option.map_some, Option.bind_none, eq_self, true_or, or_true, px_av_0, px_av_1, px_av_2, px_av_10, px_av_11, bn, wi_1, wi_2, wl_1, wl_21, wl_22, wr_1, wr_21, wr_22, Sum.elim_inl, Sum.elim_inr, ↓reduceIte, Nat.reduceLT, Nat.reduceLeDiff, not_false_eq_true, not_true_eq_false, Nat.reduceEqDiff, Nat.reduceAdd, reduceCtorEq, and_true, true_and, and_false, false_and, false_or, or_false]
/-- write -/
theorem a_write (hR : cR σ.2.2) (hk : cr4 σ K N) (x y : Int32) (v : Int64) : ∃ r σ' N', f_12050 tT σ 100 x y v = some (r, σ') ∧ fr RwC σ σ' ∧ cr4 σ' K N' ∧ ∀ τ, mR τ.2.2 → mr4 τ K N → ∃ υ, f_129 tT τ 0 x y v = some (r, υ) ∧ fr RwM τ υ ∧ mr4 υ K N' := by
  have thr : ∀ τ : px_M, fr RwM τ (px_wi τ 0 0 (nI 0)) := fun τ => fr_wi (fr_rf _ _) _ rfl
  rcases c_isRow σ x with ⟨r, hr, rfl, h1⟩ | ⟨hno, h1⟩
  · have c1 : vp_in (nI r) 4 := (vp_in_eq (by omega)).mpr (by omega)
    have c2 : (nI r).toNatClampNeg = r := nI_clamp (by omega)
    have wx : ∀ ω, f_2 tT ω (nI r).toInt64 (lN 0) (lN 3) = some (nI 1) := fun ω => by
      rw [e_withinN ω (nI r) (lo := 0) (hi := 3) (by omega) (by omega), decide_eq_true (by rw [nI_toInt (by omega)]; omega), mb_t1]
    rcases hk r hr with ⟨k1, k2⟩ | ⟨s, m, k1, k2, k3, k4, k5⟩
    · refine ⟨-6, σ, N, ?_, fr_rf _ _, hk, fun τ hRm hmr => ?_⟩
      · simp only [f_12050, h1, la_100, la_105, rc_100_15 hR, gd_tt, oA_arr, px_obj_s, Option.bind_some, Option.map_some, Option.bind_none, eq_self, true_or, or_true, px_av_0, px_av_1, px_av_2, px_av_10, px_av_11, bn, wi_1, wi_2, wl_1, wl_21, wl_22, wr_1, wr_21, wr_22, Sum.elim_inl, Sum.elim_inr, ↓reduceIte, Nat.reduceLT, Nat.reduceLeDiff, not_false_eq_true, not_true_eq_false, Nat.reduceEqDiff, Nat.reduceAdd, reduceCtorEq, and_true, true_and, and_false, false_and, false_or, or_false, n10, c1, c2, k2, nm1_le]
      · have hmt := mr4_thr hmr
        have hRt : mR (px_wi τ 0 0 (nI 0)).2.2 := hRm
        have hft := thr τ
        show ∃ υ, f_129 tT τ 0 (nI r) y v = _ ∧ _
        unfold f_129
        generalize px_wi τ 0 0 (nI 0) = ω at hmt hRt hft ⊢
        have hmr' := hmt r hr
        rw [k1] at hmr'
        rcases hmr' with ⟨-, m2⟩ | ⟨s, m, m1, -⟩
        · refine ⟨ω, ?_, hft, hmt⟩
          simp only [f_129_31, la_0, la_35, rm_0_35 hRt, gd_tt, oA_arr, px_obj_s, Option.bind_some, Option.map_some, Option.bind_none, eq_self, true_or, or_true, px_av_0, px_av_1, px_av_2, px_av_10, px_av_11, bn, wi_1, wi_2, wl_1, wl_21, wl_22, wr_1, wr_21, wr_22, Sum.elim_inl, Sum.elim_inr, ↓reduceIte, Nat.reduceLT, Nat.reduceLeDiff, not_false_eq_true, not_true_eq_false, Nat.reduceEqDiff, Nat.reduceAdd, reduceCtorEq, and_true, true_and, and_false, false_and, false_or, or_false, wx, n10, c1, c2, m2]
        · cases m1
    · have a0 : nI 0 ≤ nI m := by rw [nI_leI (by omega) (by omega)]; omega
      have hmod : ∀ τ, mR τ.2.2 → mr4 τ K N → ∃ ω, mR ω.2.2 ∧ mr4 ω K N ∧ fr RwM τ ω ∧ ω.1 35 r = nI s ∧ ω.1 36 r = nI m ∧ f_129 tT τ 0 (nI r) y v = f_129_35 tT ω 0 (nI r) y v := by
        intro τ hRm hmr
        have hmt := mr4_thr hmr
        have hRt : mR (px_wi τ 0 0 (nI 0)).2.2 := hRm
        have hft := thr τ
        unfold f_129
        generalize px_wi τ 0 0 (nI 0) = ω at hmt hRt hft ⊢
        have hmr' := hmt r hr
        rw [k1] at hmr'
        rcases hmr' with ⟨m1, -⟩ | ⟨s', m', m1, m2, m3, m4, m5⟩
        · cases m1
        · cases m1
          have hs1 : ¬ nI s = -1 := nm1 (by omega)
          refine ⟨ω, hRt, hmt, hft, m4, m5.1, ?_⟩
          simp only [la_0, la_35, rm_0_35 hRt, gd_tt, oA_arr, px_obj_s, Option.bind_some, Option.map_some, Option.bind_none, eq_self, true_or, or_true, px_av_0, px_av_1, px_av_2, px_av_10, px_av_11, bn, wi_1, wi_2, wl_1, wl_21, wl_22, wr_1, wr_21, wr_22, Sum.elim_inl, Sum.elim_inr, ↓reduceIte, Nat.reduceLT, Nat.reduceLeDiff, not_false_eq_true, not_true_eq_false, Nat.reduceEqDiff, Nat.reduceAdd, reduceCtorEq, and_true, true_and, and_false, false_and, false_or, or_false, wx, n10, c1, c2, m4, hs1]
      have w5 : ∀ ω, f_2 tT ω y.toInt64 (lN 0) (nI m - nI 1).toInt64 = some (mb (decide (0 ≤ y.toInt ∧ y.toInt < m))) := by
        intro ω
        rw [e_within]
        congr 2
        have e2 : (nI m - nI 1).toInt64.toInt = (m : Int) - 1 := by
          by_cases q : m = 0
          · subst q; decide
          · rw [ni_subL (by omega), Int32.toInt_toInt64, nI_toInt (by omega)]; omega
        have e3 : decide (lN 0 ≤ y.toInt64) = decide (0 ≤ y.toInt) := decide_eq_decide.mpr (by rw [fa_le64, Int32.toInt_toInt64, pf_lI (by omega)]; rfl)
        have e4 : decide (y.toInt64 ≤ (nI m - nI 1).toInt64) = decide (y.toInt < m) := decide_eq_decide.mpr (by rw [fa_le64, Int32.toInt_toInt64, e2]; omega)
        rw [e3, e4, Bool.decide_and]
      by_cases hin : 0 ≤ y.toInt ∧ y.toInt < m
      · obtain ⟨k, hkm, rfl⟩ : ∃ k, k < m ∧ y = nI k := ⟨y.toInt.toNat, by omega, by
          apply Int32.toInt_inj.mp
          rw [nI_toInt (by omega)]
          omega⟩
        obtain ⟨υ, q1, q2, q3⟩ := c_put hR hk hr k1 hkm v
        have hRυ := cR_fr q2 hR
        have b1 : ¬ nI k < nI 0 := by rw [nI_ltI (by omega) (by omega)]; omega
        have b2 : nI k < nI m := by rw [nI_ltI (by omega) (by omega)]; omega
        have hrw : rwc υ r m (fun j => upN N r k (cutv s v) r j) := by
          rcases q3 r hr with ⟨z1, -⟩ | ⟨s', m', z1, -, -, -, z5⟩
          · rw [k1] at z1; cases z1
          · rw [k1] at z1; cases z1; exact z5
        have hnum := c_number hRυ hr k3 hkm hrw
        have hval : upN N r k (cutv s v) r k = cutv s v := by unfold upN; rw [if_pos ⟨rfl, rfl⟩]
        rw [hval] at hnum
        refine ⟨cutv s v, υ, upN N r k (cutv s v), ?_, q2, q3, fun τ hRm hmr => ?_⟩
        · simp only [f_12050, f_12050_49, h1, la_100, la_105, rc_100_15 hR, gd_tt, oA_arr, px_obj_s, Option.bind_some, Option.map_some, Option.bind_none, eq_self, true_or, or_true, px_av_0, px_av_1, px_av_2, px_av_10, px_av_11, bn, wi_1, wi_2, wl_1, wl_21, wl_22, wr_1, wr_21, wr_22, Sum.elim_inl, Sum.elim_inr, ↓reduceIte, Nat.reduceLT, Nat.reduceLeDiff, not_false_eq_true, not_true_eq_false, Nat.reduceEqDiff, Nat.reduceAdd, reduceCtorEq, and_true, true_and, and_false, false_and, false_or, or_false, n10, c1, c2, k5.1, a0, b1, b2, q1, hnum]
        · obtain ⟨ω, g1, g2, g3, g4, g5, g6⟩ := hmod τ hRm hmr
          have w := w5 ω
          rw [decide_eq_true hin, mb_t1] at w
          have c3 : vp_in (nI (40 * r + k)) 160 := (vp_in_eq (by omega)).mpr (by omega)
          have c4 : (nI (40 * r + k)).toNatClampNeg = 40 * r + k := nI_clamp (by omega)
          have e5 : px_up ω.2.1 37 (40 * r + k) (cutv s v) 37 (40 * r + k) = cutv s v := px_up_s _ _ _ _
          refine ⟨px_wl ω 37 (40 * r + k) (cutv s v), ?_, fr_wl g3 _ rfl, mr4_put g2 (by omega) _⟩
          refine g6.trans ?_
          simp only [f_129_35, f_129_57, f_129_78, la_0, la_35, la_36, la_37, rm_0_35 g1, rm_0_36 g1, rm_0_37 g1, gd_tt, oA_arr, px_obj_s, Option.bind_some, Option.map_some, Option.bind_none, eq_self, true_or, or_true, px_av_0, px_av_1, px_av_2, px_av_10, px_av_11, bn, wi_1, wi_2, wl_1, wl_21, wl_22, wr_1, wr_21, wr_22, Sum.elim_inl, Sum.elim_inr, ↓reduceIte, Nat.reduceLT, Nat.reduceLeDiff, not_false_eq_true, not_true_eq_false, Nat.reduceEqDiff, Nat.reduceAdd, reduceCtorEq, and_true, true_and, and_false, false_and, false_or, or_false, c1, c2, g4, g5, w, n10, cut_m ω k2, pk_mul, nI_add, c3, c4, e5]
      · refine ⟨-7, σ, N, ?_, fr_rf _ _, hk, fun τ hRm hmr => ?_⟩
        · by_cases b1 : y < nI 0
          · simp only [f_12050, f_12050_38, h1, la_100, la_105, rc_100_15 hR, gd_tt, oA_arr, px_obj_s, Option.bind_some, Option.map_some, Option.bind_none, eq_self, true_or, or_true, px_av_0, px_av_1, px_av_2, px_av_10, px_av_11, bn, wi_1, wi_2, wl_1, wl_21, wl_22, wr_1, wr_21, wr_22, Sum.elim_inl, Sum.elim_inr, ↓reduceIte, Nat.reduceLT, Nat.reduceLeDiff, not_false_eq_true, not_true_eq_false, Nat.reduceEqDiff, Nat.reduceAdd, reduceCtorEq, and_true, true_and, and_false, false_and, false_or, or_false, n10, c1, c2, k5.1, a0, b1]
          · have b2 : ¬ y < nI m := by
              rw [fa_lt, nI_toInt (by omega)] at b1 ⊢
              omega
            simp only [f_12050, f_12050_38, h1, la_100, la_105, rc_100_15 hR, gd_tt, oA_arr, px_obj_s, Option.bind_some, Option.map_some, Option.bind_none, eq_self, true_or, or_true, px_av_0, px_av_1, px_av_2, px_av_10, px_av_11, bn, wi_1, wi_2, wl_1, wl_21, wl_22, wr_1, wr_21, wr_22, Sum.elim_inl, Sum.elim_inr, ↓reduceIte, Nat.reduceLT, Nat.reduceLeDiff, not_false_eq_true, not_true_eq_false, Nat.reduceEqDiff, Nat.reduceAdd, reduceCtorEq, and_true, true_and, and_false, false_and, false_or, or_false, n10, c1, c2, k5.1, a0, b1, b2]
        · obtain ⟨ω, g1, g2, g3, g4, g5, g6⟩ := hmod τ hRm hmr
          have w := w5 ω
          rw [decide_eq_false hin, mb_f0] at w
          refine ⟨ω, ?_, g3, g2⟩
          refine g6.trans ?_
          simp only [f_129_35, f_129_53, la_0, la_36, rm_0_36 g1, gd_tt, oA_arr, px_obj_s, Option.bind_some, Option.map_some, Option.bind_none, eq_self, true_or, or_true, px_av_0, px_av_1, px_av_2, px_av_10, px_av_11, bn, wi_1, wi_2, wl_1, wl_21, wl_22, wr_1, wr_21, wr_22, Sum.elim_inl, Sum.elim_inr, ↓reduceIte, Nat.reduceLT, Nat.reduceLeDiff, not_false_eq_true, not_true_eq_false, Nat.reduceEqDiff, Nat.reduceAdd, reduceCtorEq, and_true, true_and, and_false, false_and, false_or, or_false, c1, c2, g5, w]
  · refine ⟨-2, σ, N, ?_, fr_rf _ _, hk, fun τ hRm hmr => ⟨_, ?_, thr τ, mr4_thr hmr⟩⟩
    · simp only [f_12050, h1, gd_tt, oA_arr, px_obj_s, Option.bind_some, Option.map_some, Option.bind_none, eq_self, true_or, or_true, px_av_0, px_av_1, px_av_2, px_av_10, px_av_11, bn, wi_1, wi_2, wl_1, wl_21, wl_22, wr_1, wr_21, wr_22, Sum.elim_inl, Sum.elim_inr, ↓reduceIte, Nat.reduceLT, Nat.reduceLeDiff, not_false_eq_true, not_true_eq_false, Nat.reduceEqDiff, Nat.reduceAdd, reduceCtorEq, and_true, true_and, and_false, false_and, false_or, or_false]
    · have wx := e_withinN (px_wi τ 0 0 (nI 0)) x (lo := 0) (hi := 3) (by omega) (by omega)
      rw [decide_eq_false hno, mb_f0] at wx
      simp only [f_129, wx, la_0, gd_tt, oA_arr, px_obj_s, Option.bind_some, Option.map_some, Option.bind_none, eq_self, true_or, or_true, px_av_0, px_av_1, px_av_2, px_av_10, px_av_11, bn, wi_1, wi_2, wl_1, wl_21, wl_22, wr_1, wr_21, wr_22, Sum.elim_inl, Sum.elim_inr, ↓reduceIte, Nat.reduceLT, Nat.reduceLeDiff, not_false_eq_true, not_true_eq_false, Nat.reduceEqDiff, Nat.reduceAdd, reduceCtorEq, and_true, true_and, and_false, false_and, false_or, or_false]
/-! copy -/
/-- one pair copied, if there is room -/
def cp1 (m s r : Nat) (B : Nat → Nat) (a b : Nat) (st : Nat × (Nat → Nat → Int64)) : Nat × (Nat → Nat → Int64) := if st.1 < m ∧ (B a).testBit b = true then (st.1 + 1, upN st.2 r st.1 (cutv s (lN (100 * a + b)))) else st
def cpi (m s r : Nat) (B : Nat → Nat) (a : Nat) : Nat → Nat × (Nat → Nat → Int64) → Nat × (Nat → Nat → Int64)
  | 0, st => st
  | j + 1, st => cp1 m s r B a (a + 1 + j) (cpi m s r B a j st)
def cpo (m s r n : Nat) (B : Nat → Nat) (N : Nat → Nat → Int64) : Nat → Nat × (Nat → Nat → Int64)
  | 0 => (0, N)
  | a + 1 => cpi m s r B a (n - 1 - a) (cpo m s r n B N a)
theorem cp1_full {m s r a b : Nat} {st : Nat × (Nat → Nat → Int64)} (h : m ≤ st.1) : cp1 m s r B a b st = st := by
  unfold cp1; rw [if_neg (by omega)]
theorem cpi_full {m s r a : Nat} {st : Nat × (Nat → Nat → Int64)} {j : Nat} (h : m ≤ (cpi m s r B a j st).1) : ∀ i, cpi m s r B a (j + i) st = cpi m s r B a j st := by
  intro i
  induction i with
  | zero => rfl
  | succ i ih =>
    show cp1 m s r B a (a + 1 + (j + i)) (cpi m s r B a (j + i) st) = _
    rw [ih, cp1_full h]
theorem cp1_le {m s r a b : Nat} {st : Nat × (Nat → Nat → Int64)} (h : st.1 ≤ m) : (cp1 m s r B a b st).1 ≤ m := by
  unfold cp1
  split
  · next q => exact q.1
  · exact h
theorem cpi_le {m s r a : Nat} {st : Nat × (Nat → Nat → Int64)} (h : st.1 ≤ m) : ∀ j, (cpi m s r B a j st).1 ≤ m := by
  intro j
  induction j with
  | zero => exact h
  | succ j ih => exact cp1_le ih
theorem cpo_le {m s r : Nat} : ∀ a, (cpo m s r n B N a).1 ≤ m := by
  intro a
  induction a with
  | zero => exact Nat.zero_le _
  | succ a ih => exact cpi_le ih _
theorem c_copy (hc : cl σ n B) (hk : cr4 σ K N) {r s m : Nat} (hr : r < 4) (hK : K r = some (s, m)) (hm40 : m ≤ 40) : ∃ b, f_12051_26 tT 100 (nI r) (nI 0) (nI 0) σ = some b ∧ ∃ υ, b = (nI (cpo m s r n B N n).1, υ) ∧ fr RwC σ υ ∧ cr4 υ K (cpo m s r n B N n).2 := by
  have hn := hc.2.2.2.2.1.1
  have c1 : vp_in (nI r) 4 := (vp_in_eq (by omega)).mpr (by omega)
  have c2 : (nI r).toNatClampNeg = r := nI_clamp (by omega)
  have clf : ∀ ρ, fr RwC σ ρ → cl ρ n B := fun ρ h => ⟨cR_fr h hc.1, ct_fr h (fun _ => rfl) (fun _ => rfl) hc.2⟩
  unfold f_12051_26
  refine lp_for (F := fun s : Int32 × Int32 × px_M => F_12051_26 tT 100 (nI r) s.1 s.2.1 s.2.2) (fun a q => ∃ ρ, q = (nI (cpo m s r n B N a).1, nI a, ρ) ∧ fr RwC σ ρ ∧ cr4 ρ K (cpo m s r n B N a).2) _ n (fun a q ha hI => ?_) (fun q hI => ?_) 0 (nI 0, nI 0, σ) (by omega) ⟨σ, rfl, fr_rf _ _, hk⟩
  · obtain ⟨ρ, rfl, g1, g2⟩ := hI
    have hst := cpo_le (n := n) (B := B) (N := N) (m := m) (s := s) (r := r) a
    have hco : cpo m s r n B N (a + 1) = cpi m s r B a (n - 1 - a) (cpo m s r n B N a) := rfl
    rw [hco]
    generalize cpo m s r n B N a = st at hst g2
    have inner : ∃ b, f_12051_45 tT 100 (nI r) (nI a) (nI st.1) (nI (a + 1)) ρ = some b ∧ ∃ υ, b = .inl (nI (cpi m s r B a (n - 1 - a) st).1, nI (a + 1), υ) ∧ fr RwC σ υ ∧ cr4 υ K (cpi m s r B a (n - 1 - a) st).2 := by
      unfold f_12051_45
      refine lp_for (F := fun s : Int32 × Int32 × px_M => F_12051_45 tT 100 (nI r) (nI a) s.1 s.2.1 s.2.2) (fun j q => ∃ ρ, q = (nI (cpi m s r B a j st).1, nI (a + 1 + j), ρ) ∧ fr RwC σ ρ ∧ cr4 ρ K (cpi m s r B a j st).2) _ (n - 1 - a) (fun j q hj hI => ?_) (fun q hI => ?_) 0 (nI st.1, nI (a + 1), ρ) (by omega) ⟨ρ, rfl, g1, g2⟩
      · obtain ⟨ρ, rfl, g1, g2⟩ := hI
        have hle := cpi_le (B := B) (s := s) (r := r) (a := a) hst j
        have hci : cpi m s r B a (j + 1) st = cp1 m s r B a (a + 1 + j) (cpi m s r B a j st) := rfl
        rw [hci]
        generalize cpi m s r B a j st = st at hle g2
        obtain ⟨hR, ht⟩ := clf ρ g1
        have hv : ρ.1 105 r = nI m := by
          rcases g2 r hr with ⟨z1, -⟩ | ⟨s', m', z1, -, -, -, z5⟩
          · rw [hK] at z1; cases z1
          · rw [hK] at z1; cases z1; exact z5.1
        have a1 : ¬ nI n ≤ nI (a + 1 + j) := by rw [nI_leI (by omega) (by omega)]; omega
        have e1 := ht.2.2.2.2.1
        have lk := c_linked ht (a := a) (b := a + 1 + j) (by omega) (by omega)
        have hjj : a + 1 + (j + 1) = a + 1 + j + 1 := by omega
        rw [hjj]
        by_cases hroom : st.1 < m
        · have a2 : ¬ nI m ≤ nI st.1 := by rw [nI_leI (by omega) (by omega)]; omega
          cases hb : (B a).testBit (a + 1 + j) with
          | false =>
            rw [hb, mb_f0] at lk
            have hcp : cp1 m s r B a (a + 1 + j) st = st := by unfold cp1; rw [if_neg (by simp [hb])]
            rw [hcp]
            refine ⟨_, ?_, ρ, rfl, g1, g2⟩
            dsimp only
            unfold F_12051_45 f_12051_105
            simp only [la_100, la_105, la_110, la_111, rc_100_0 hR, rc_110_0 hR, rc_100_15 hR, gd_tt, oA_arr, px_obj_s, Option.bind_some, Option.map_some, Option.bind_none, eq_self, true_or, or_true, px_av_0, px_av_1, px_av_2, px_av_10, px_av_11, bn, wi_1, wi_2, wl_1, wl_21, wl_22, wr_1, wr_21, wr_22, Sum.elim_inl, Sum.elim_inr, ↓reduceIte, Nat.reduceLT, Nat.reduceLeDiff, not_false_eq_true, not_true_eq_false, Nat.reduceEqDiff, Nat.reduceAdd, reduceCtorEq, and_true, true_and, and_false, false_and, false_or, or_false, e1, a1, c1, c2, hv, a2, lk, nI_add]
          | true =>
            rw [hb, mb_t1] at lk
            have hcp : cp1 m s r B a (a + 1 + j) st = (st.1 + 1, upN st.2 r st.1 (cutv s (lN (100 * a + (a + 1 + j))))) := by unfold cp1; rw [if_pos ⟨hroom, hb⟩]
            rw [hcp]
            obtain ⟨υ, q1, q2, q3⟩ := c_put hR g2 hr hK hroom (lN (100 * a + (a + 1 + j)))
            have el : lN 100 * (nI a).toInt64 + (nI (a + 1 + j)).toInt64 = lN (100 * a + (a + 1 + j)) := by rw [nI_l (by omega), nI_l (by omega), lN_mul, lN_add]
            refine ⟨_, ?_, υ, rfl, fr_tr g1 q2, q3⟩
            dsimp only
            unfold F_12051_45 f_12051_86 f_12051_105
            simp only [la_100, la_105, la_110, la_111, rc_100_0 hR, rc_110_0 hR, rc_100_15 hR, gd_tt, oA_arr, px_obj_s, Option.bind_some, Option.map_some, Option.bind_none, eq_self, true_or, or_true, px_av_0, px_av_1, px_av_2, px_av_10, px_av_11, bn, wi_1, wi_2, wl_1, wl_21, wl_22, wr_1, wr_21, wr_22, Sum.elim_inl, Sum.elim_inr, ↓reduceIte, Nat.reduceLT, Nat.reduceLeDiff, not_false_eq_true, not_true_eq_false, Nat.reduceEqDiff, Nat.reduceAdd, reduceCtorEq, and_true, true_and, and_false, false_and, false_or, or_false, e1, a1, c1, c2, hv, a2, lk, n10, el, q1, nI_add]
        · have a2 : nI m ≤ nI st.1 := by rw [nI_leI (by omega) (by omega)]; omega
          rw [cp1_full (by omega)]
          refine ⟨_, ?_, ρ, rfl, g1, g2⟩
          dsimp only
          unfold F_12051_45 f_12051_105
          simp only [la_100, la_105, la_110, la_111, rc_100_0 hR, rc_110_0 hR, rc_100_15 hR, gd_tt, oA_arr, px_obj_s, Option.bind_some, Option.map_some, Option.bind_none, eq_self, true_or, or_true, px_av_0, px_av_1, px_av_2, px_av_10, px_av_11, bn, wi_1, wi_2, wl_1, wl_21, wl_22, wr_1, wr_21, wr_22, Sum.elim_inl, Sum.elim_inr, ↓reduceIte, Nat.reduceLT, Nat.reduceLeDiff, not_false_eq_true, not_true_eq_false, Nat.reduceEqDiff, Nat.reduceAdd, reduceCtorEq, and_true, true_and, and_false, false_and, false_or, or_false, e1, a1, c1, c2, hv, a2, nI_add]
      · obtain ⟨ρ, rfl, g1, g2⟩ := hI
        obtain ⟨hR, ht⟩ := clf ρ g1
        have e1 := ht.2.2.2.2.1
        have a1 : nI n ≤ nI (a + 1 + (n - 1 - a)) := by rw [nI_leI (by omega) (by omega)]; omega
        refine ⟨_, ?_, ρ, rfl, g1, g2⟩
        dsimp only
        unfold F_12051_45
        simp only [la_100, la_110, la_111, rc_100_0 hR, rc_110_0 hR, gd_tt, oA_arr, px_obj_s, Option.bind_some, Option.map_some, Option.bind_none, eq_self, true_or, or_true, px_av_0, px_av_1, px_av_2, px_av_10, px_av_11, bn, wi_1, wi_2, wl_1, wl_21, wl_22, wr_1, wr_21, wr_22, Sum.elim_inl, Sum.elim_inr, ↓reduceIte, Nat.reduceLT, Nat.reduceLeDiff, not_false_eq_true, not_true_eq_false, Nat.reduceEqDiff, Nat.reduceAdd, reduceCtorEq, and_true, true_and, and_false, false_and, false_or, or_false, e1, a1, nI_add]
    obtain ⟨b, q1, υ, rfl, q2, q3⟩ := inner
    obtain ⟨hR, ht⟩ := clf ρ g1
    have e1 := ht.2.2.2.2.1
    have a1 : ¬ nI n ≤ nI a := by rw [nI_leI (by omega) (by omega)]; omega
    refine ⟨_, ?_, υ, rfl, q2, q3⟩
    dsimp only
    unfold F_12051_26
    simp only [la_100, la_110, la_111, rc_100_0 hR, rc_110_0 hR, gd_tt, oA_arr, px_obj_s, Option.bind_some, Option.map_some, Option.bind_none, eq_self, true_or, or_true, px_av_0, px_av_1, px_av_2, px_av_10, px_av_11, bn, wi_1, wi_2, wl_1, wl_21, wl_22, wr_1, wr_21, wr_22, Sum.elim_inl, Sum.elim_inr, ↓reduceIte, Nat.reduceLT, Nat.reduceLeDiff, not_false_eq_true, not_true_eq_false, Nat.reduceEqDiff, Nat.reduceAdd, reduceCtorEq, and_true, true_and, and_false, false_and, false_or, or_false, e1, a1, nI_add, q1]
  · obtain ⟨ρ, rfl, g1, g2⟩ := hI
    obtain ⟨hR, ht⟩ := clf ρ g1
    have e1 := ht.2.2.2.2.1
    have a1 : nI n ≤ nI n := by rw [nI_leI (by omega) (by omega)]; omega
    refine ⟨_, ?_, ρ, rfl, g1, g2⟩
    dsimp only
    unfold F_12051_26
    simp only [la_100, la_110, la_111, rc_100_0 hR, rc_110_0 hR, gd_tt, oA_arr, px_obj_s, Option.bind_some, Option.map_some, Option.bind_none, eq_self, true_or, or_true, px_av_0, px_av_1, px_av_2, px_av_10, px_av_11, bn, wi_1, wi_2, wl_1, wl_21, wl_22, wr_1, wr_21, wr_22, Sum.elim_inl, Sum.elim_inr, ↓reduceIte, Nat.reduceLT, Nat.reduceLeDiff, not_false_eq_true, not_true_eq_false, Nat.reduceEqDiff, Nat.reduceAdd, reduceCtorEq, and_true, true_and, and_false, false_and, false_or, or_false, e1, a1]
theorem e_copy (hm : mo σ n B) (hk : mr4 σ K N) {r s m : Nat} (hr : r < 4) (hK : K r = some (s, m)) (hm40 : m ≤ 40) : ∃ b, f_130_37 tT 0 (nI r) (nI 0) (nI 0) σ = some b ∧ ∃ υ, b = (nI (cpo m s r n B N n).1, υ) ∧ fr RwM σ υ ∧ mr4 υ K (cpo m s r n B N n).2 := by
  have hw := hm.2.1
  have hn := hw.1
  have c1 : vp_in (nI r) 4 := (vp_in_eq (by omega)).mpr (by omega)
  have c2 : (nI r).toNatClampNeg = r := nI_clamp (by omega)
  have k1 : vp_in (nI 1) 3216 := (vp_in_eq (by omega)).mpr (by omega)
  have k2 : (nI 1).toNatClampNeg = 1 := nI_clamp (by omega)
  have clf : ∀ ρ, fr RwM σ ρ → mo ρ n B := fun ρ h => mo_fr h (fun _ => rfl) hm
  unfold f_130_37
  refine lp_for (F := fun s : Int32 × Int32 × px_M => F_130_37 tT 0 (nI r) s.1 s.2.1 s.2.2) (fun a q => ∃ ρ, q = (nI (cpo m s r n B N a).1, nI a, ρ) ∧ fr RwM σ ρ ∧ mr4 ρ K (cpo m s r n B N a).2) _ n (fun a q ha hI => ?_) (fun q hI => ?_) 0 (nI 0, nI 0, σ) (by omega) ⟨σ, rfl, fr_rf _ _, hk⟩
  · obtain ⟨ρ, rfl, g1, g2⟩ := hI
    have hst := cpo_le (n := n) (B := B) (N := N) (m := m) (s := s) (r := r) a
    have hco : cpo m s r n B N (a + 1) = cpi m s r B a (n - 1 - a) (cpo m s r n B N a) := rfl
    rw [hco]
    generalize cpo m s r n B N a = st at hst g2
    have inner : ∃ b, f_130_52 tT 0 (nI r) (nI a) (nI st.1) (nI (a + 1)) ρ = some b ∧ ∃ υ, b = .inl (nI (cpi m s r B a (n - 1 - a) st).1, nI (a + 1), υ) ∧ fr RwM σ υ ∧ mr4 υ K (cpi m s r B a (n - 1 - a) st).2 := by
      unfold f_130_52
      refine lp_rel (F := fun s : Int32 × Int32 × px_M => F_130_52 tT 0 (nI r) (nI a) s.1 s.2.1 s.2.2) (fun j q => ∃ ρ, q = (nI (cpi m s r B a j st).1, nI (a + 1 + j), ρ) ∧ fr RwM σ ρ ∧ mr4 ρ K (cpi m s r B a j st).2) _ (n - 1 - a) (fun j q hj hI => ?_) 0 (nI st.1, nI (a + 1), ρ) (by omega) ⟨ρ, rfl, g1, g2⟩
      obtain ⟨ρ, rfl, g1, g2⟩ := hI
      have hle := cpi_le (B := B) (s := s) (r := r) (a := a) hst j
      have hmρ := clf ρ g1
      obtain ⟨hR, -, e1, -⟩ := id hmρ
      obtain ⟨v35, v36⟩ : ρ.1 35 r = nI s ∧ ρ.1 36 r = nI m ∧ s ≤ 3 := by
        rcases g2 r hr with ⟨z1, -⟩ | ⟨s', m', z1, z2, -, z4, z5⟩
        · rw [hK] at z1; cases z1
        · rw [hK] at z1; cases z1; exact ⟨z4, z5.1, z2⟩
      obtain ⟨v36, hs3⟩ := v36
      by_cases hjn : j = n - 1 - a
      · subst hjn
        refine Or.inr ⟨_, ?_, ρ, rfl, g1, g2⟩
        have a1 : nI n ≤ nI (a + 1 + (n - 1 - a)) := by rw [nI_leI (by omega) (by omega)]; omega
        dsimp only
        unfold F_130_52 f_130_127
        simp only [la_0, la_1, rm_0_1 hR, gd_tt, oA_arr, px_obj_s, Option.bind_some, Option.map_some, Option.bind_none, eq_self, true_or, or_true, px_av_0, px_av_1, px_av_2, px_av_10, px_av_11, bn, wi_1, wi_2, wl_1, wl_21, wl_22, wr_1, wr_21, wr_22, Sum.elim_inl, Sum.elim_inr, ↓reduceIte, Nat.reduceLT, Nat.reduceLeDiff, not_false_eq_true, not_true_eq_false, Nat.reduceEqDiff, Nat.reduceAdd, reduceCtorEq, and_true, true_and, and_false, false_and, false_or, or_false, k1, k2, e1, a1, nI_add]
      · have a1 : ¬ nI n ≤ nI (a + 1 + j) := by rw [nI_leI (by omega) (by omega)]; omega
        by_cases hroom : (cpi m s r B a j st).1 < m
        · refine Or.inl ?_
          have hci : cpi m s r B a (j + 1) st = cp1 m s r B a (a + 1 + j) (cpi m s r B a j st) := rfl
          rw [hci]
          generalize cpi m s r B a j st = st at hle g2 hroom
          have a2 : ¬ nI m ≤ nI st.1 := by rw [nI_leI (by omega) (by omega)]; omega
          have hjj : a + 1 + (j + 1) = a + 1 + j + 1 := by omega
          rw [hjj]
          have hBa := wf_2048 hw a
          have n1 := e_near hmρ (show a < 11 by omega)
          have n2 := e_isIn ρ (s := B a) (j := a + 1 + j) (by omega) (by omega)
          have l3 : (nI (B a)).toInt64 = lN (B a) := nI_l (by omega)
          cases hb : (B a).testBit (a + 1 + j) with
          | false =>
            rw [hb, mb_f0] at n2
            have hcp : cp1 m s r B a (a + 1 + j) st = st := by unfold cp1; rw [if_neg (by simp [hb])]
            rw [hcp]
            refine ⟨_, ?_, by omega, ρ, rfl, g1, g2⟩
            dsimp only
            unfold F_130_52 f_130_121
            simp only [la_0, la_1, la_36, rm_0_1 hR, rm_0_36 hR, gd_tt, oA_arr, px_obj_s, Option.bind_some, Option.map_some, Option.bind_none, eq_self, true_or, or_true, px_av_0, px_av_1, px_av_2, px_av_10, px_av_11, bn, wi_1, wi_2, wl_1, wl_21, wl_22, wr_1, wr_21, wr_22, Sum.elim_inl, Sum.elim_inr, ↓reduceIte, Nat.reduceLT, Nat.reduceLeDiff, not_false_eq_true, not_true_eq_false, Nat.reduceEqDiff, Nat.reduceAdd, reduceCtorEq, and_true, true_and, and_false, false_and, false_or, or_false, k1, k2, e1, a1, c1, c2, v36, a2, n1, l3, n2, nI_add]
          | true =>
            rw [hb, mb_t1] at n2
            have hcp : cp1 m s r B a (a + 1 + j) st = (st.1 + 1, upN st.2 r st.1 (cutv s (lN (100 * a + (a + 1 + j))))) := by unfold cp1; rw [if_pos ⟨hroom, hb⟩]
            rw [hcp]
            have el : (nI (100 * a + (a + 1 + j))).toInt64 = lN (100 * a + (a + 1 + j)) := nI_l (by omega)
            have c3 : vp_in (nI (40 * r + st.1)) 160 := (vp_in_eq (by omega)).mpr (by omega)
            have c4 : (nI (40 * r + st.1)).toNatClampNeg = 40 * r + st.1 := nI_clamp (by omega)
            refine ⟨_, ?_, by omega, px_wl ρ 37 (40 * r + st.1) (cutv s (lN (100 * a + (a + 1 + j)))), rfl, fr_wl g1 _ rfl, mr4_put g2 (by omega) _⟩
            dsimp only
            unfold F_130_52 f_130_90 f_130_118 f_130_121
            simp only [la_0, la_1, la_35, la_36, la_37, rm_0_1 hR, rm_0_35 hR, rm_0_36 hR, rm_0_37 hR, gd_tt, oA_arr, px_obj_s, Option.bind_some, Option.map_some, Option.bind_none, eq_self, true_or, or_true, px_av_0, px_av_1, px_av_2, px_av_10, px_av_11, bn, wi_1, wi_2, wl_1, wl_21, wl_22, wr_1, wr_21, wr_22, Sum.elim_inl, Sum.elim_inr, ↓reduceIte, Nat.reduceLT, Nat.reduceLeDiff, not_false_eq_true, not_true_eq_false, Nat.reduceEqDiff, Nat.reduceAdd, reduceCtorEq, and_true, true_and, and_false, false_and, false_or, or_false, k1, k2, e1, a1, c1, c2, v35, v36, a2, n1, l3, n2, n10, pk_mul, nI_add, el, cut_m ρ hs3, c3, c4]
        · have hf : cpi m s r B a (n - 1 - a) st = cpi m s r B a j st := by
            have := cpi_full (B := B) (m := m) (s := s) (r := r) (a := a) (st := st) (j := j) (by omega) (n - 1 - a - j)
            rw [show j + (n - 1 - a - j) = n - 1 - a by omega] at this
            exact this
          have a2 : nI m ≤ nI (cpi m s r B a j st).1 := by rw [nI_leI (by omega) (by omega)]; omega
          rw [hf]
          refine Or.inr ⟨_, ?_, ρ, rfl, g1, g2⟩
          dsimp only
          unfold F_130_52 f_130_127
          simp only [la_0, la_1, la_36, rm_0_1 hR, rm_0_36 hR, gd_tt, oA_arr, px_obj_s, Option.bind_some, Option.map_some, Option.bind_none, eq_self, true_or, or_true, px_av_0, px_av_1, px_av_2, px_av_10, px_av_11, bn, wi_1, wi_2, wl_1, wl_21, wl_22, wr_1, wr_21, wr_22, Sum.elim_inl, Sum.elim_inr, ↓reduceIte, Nat.reduceLT, Nat.reduceLeDiff, not_false_eq_true, not_true_eq_false, Nat.reduceEqDiff, Nat.reduceAdd, reduceCtorEq, and_true, true_and, and_false, false_and, false_or, or_false, k1, k2, e1, a1, c1, c2, v36, a2, nI_add]
    obtain ⟨b, q1, υ, rfl, q2, q3⟩ := inner
    obtain ⟨hR, -, e1, -⟩ := clf ρ g1
    have a1 : ¬ nI n ≤ nI a := by rw [nI_leI (by omega) (by omega)]; omega
    refine ⟨_, ?_, υ, rfl, q2, q3⟩
    dsimp only
    unfold F_130_37
    simp only [la_0, la_1, rm_0_1 hR, gd_tt, oA_arr, px_obj_s, Option.bind_some, Option.map_some, Option.bind_none, eq_self, true_or, or_true, px_av_0, px_av_1, px_av_2, px_av_10, px_av_11, bn, wi_1, wi_2, wl_1, wl_21, wl_22, wr_1, wr_21, wr_22, Sum.elim_inl, Sum.elim_inr, ↓reduceIte, Nat.reduceLT, Nat.reduceLeDiff, not_false_eq_true, not_true_eq_false, Nat.reduceEqDiff, Nat.reduceAdd, reduceCtorEq, and_true, true_and, and_false, false_and, false_or, or_false, k1, k2, e1, a1, nI_add, q1]
  · obtain ⟨ρ, rfl, g1, g2⟩ := hI
    obtain ⟨hR, -, e1, -⟩ := clf ρ g1
    have a1 : nI n ≤ nI n := by rw [nI_leI (by omega) (by omega)]; omega
    refine ⟨_, ?_, ρ, rfl, g1, g2⟩
    dsimp only
    unfold F_130_37
    simp only [la_0, la_1, rm_0_1 hR, gd_tt, oA_arr, px_obj_s, Option.bind_some, Option.map_some, Option.bind_none, eq_self, true_or, or_true, px_av_0, px_av_1, px_av_2, px_av_10, px_av_11, bn, wi_1, wi_2, wl_1, wl_21, wl_22, wr_1, wr_21, wr_22, Sum.elim_inl, Sum.elim_inr, ↓reduceIte, Nat.reduceLT, Nat.reduceLeDiff, not_false_eq_true, not_true_eq_false, Nat.reduceEqDiff, Nat.reduceAdd, reduceCtorEq, and_true, true_and, and_false, false_and, false_or, or_false, k1, k2, e1, a1]
theorem a_copy (hc : cl σ n B) (hk : cr4 σ K N) (x : Int32) : ∃ r σ' N', f_12051 tT σ 100 x = some (r, σ') ∧ fr RwC σ σ' ∧ cr4 σ' K N' ∧ ∀ τ, mo τ n B → mr4 τ K N → ∃ υ, f_130 tT τ 0 x = some (r, υ) ∧ fr RwM τ υ ∧ mr4 υ K N' := by
  have hR := hc.1
  have thr : ∀ τ : px_M, fr RwM τ (px_wi τ 0 0 (nI 0)) := fun τ => fr_wi (fr_rf _ _) _ rfl
  rcases c_isRow σ x with ⟨r, hr, rfl, h1⟩ | ⟨hno, h1⟩
  · have c1 : vp_in (nI r) 4 := (vp_in_eq (by omega)).mpr (by omega)
    have c2 : (nI r).toNatClampNeg = r := nI_clamp (by omega)
    have wx : ∀ ω, f_2 tT ω (nI r).toInt64 (lN 0) (lN 3) = some (nI 1) := fun ω => by
      rw [e_withinN ω (nI r) (lo := 0) (hi := 3) (by omega) (by omega), decide_eq_true (by rw [nI_toInt (by omega)]; omega), mb_t1]
    rcases hk r hr with ⟨k1, k2⟩ | ⟨s, m, k1, k2, k3, k4, k5⟩
    · refine ⟨-6, σ, N, ?_, fr_rf _ _, hk, fun τ hm hmr => ?_⟩
      · simp only [f_12051, h1, la_100, la_105, rc_100_15 hR, gd_tt, oA_arr, px_obj_s, Option.bind_some, Option.map_some, Option.bind_none, eq_self, true_or, or_true, px_av_0, px_av_1, px_av_2, px_av_10, px_av_11, bn, wi_1, wi_2, wl_1, wl_21, wl_22, wr_1, wr_21, wr_22, Sum.elim_inl, Sum.elim_inr, ↓reduceIte, Nat.reduceLT, Nat.reduceLeDiff, not_false_eq_true, not_true_eq_false, Nat.reduceEqDiff, Nat.reduceAdd, reduceCtorEq, and_true, true_and, and_false, false_and, false_or, or_false, n10, c1, c2, k2, nm1_le]
      · have hmt := mr4_thr hmr
        have hm' := mo_thr hm
        have hft := thr τ
        show ∃ υ, f_130 tT τ 0 (nI r) = _ ∧ _
        unfold f_130
        generalize px_wi τ 0 0 (nI 0) = ω at hmt hm' hft ⊢
        have hmr' := hmt r hr
        rw [k1] at hmr'
        rcases hmr' with ⟨-, m2⟩ | ⟨s, m, m1, -⟩
        · refine ⟨ω, ?_, hft, hmt⟩
          simp only [la_0, la_35, rm_0_35 hm'.1, gd_tt, oA_arr, px_obj_s, Option.bind_some, Option.map_some, Option.bind_none, eq_self, true_or, or_true, px_av_0, px_av_1, px_av_2, px_av_10, px_av_11, bn, wi_1, wi_2, wl_1, wl_21, wl_22, wr_1, wr_21, wr_22, Sum.elim_inl, Sum.elim_inr, ↓reduceIte, Nat.reduceLT, Nat.reduceLeDiff, not_false_eq_true, not_true_eq_false, Nat.reduceEqDiff, Nat.reduceAdd, reduceCtorEq, and_true, true_and, and_false, false_and, false_or, or_false, wx, n10, c1, c2, m2]
        · cases m1
    · have a0 : nI 0 ≤ nI m := by rw [nI_leI (by omega) (by omega)]; omega
      obtain ⟨b, q1, υ, rfl, q2, q3⟩ := c_copy hc hk hr k1 k3
      refine ⟨nI (cpo m s r n B N n).1, υ, (cpo m s r n B N n).2, ?_, q2, q3, fun τ hm hmr => ?_⟩
      · simp only [f_12051, h1, la_100, la_105, rc_100_15 hR, gd_tt, oA_arr, px_obj_s, Option.bind_some, Option.map_some, Option.bind_none, eq_self, true_or, or_true, px_av_0, px_av_1, px_av_2, px_av_10, px_av_11, bn, wi_1, wi_2, wl_1, wl_21, wl_22, wr_1, wr_21, wr_22, Sum.elim_inl, Sum.elim_inr, ↓reduceIte, Nat.reduceLT, Nat.reduceLeDiff, not_false_eq_true, not_true_eq_false, Nat.reduceEqDiff, Nat.reduceAdd, reduceCtorEq, and_true, true_and, and_false, false_and, false_or, or_false, n10, c1, c2, k5.1, a0, q1]
      · have hmt := mr4_thr hmr
        have hm' := mo_thr hm
        have hft := thr τ
        show ∃ υ, f_130 tT τ 0 (nI r) = _ ∧ _
        unfold f_130
        generalize px_wi τ 0 0 (nI 0) = ω at hmt hm' hft ⊢
        obtain ⟨b, p1, χ, rfl, p2, p3⟩ := e_copy hm' hmt hr k1 k3
        have hmr' := hmt r hr
        rw [k1] at hmr'
        rcases hmr' with ⟨m1, -⟩ | ⟨s', m', m1, m2, m3, m4, m5⟩
        · cases m1
        · cases m1
          have hs1 : ¬ nI s = -1 := nm1 (by omega)
          refine ⟨χ, ?_, fr_tr hft p2, p3⟩
          simp only [la_0, la_35, rm_0_35 hm'.1, gd_tt, oA_arr, px_obj_s, Option.bind_some, Option.map_some, Option.bind_none, eq_self, true_or, or_true, px_av_0, px_av_1, px_av_2, px_av_10, px_av_11, bn, wi_1, wi_2, wl_1, wl_21, wl_22, wr_1, wr_21, wr_22, Sum.elim_inl, Sum.elim_inr, ↓reduceIte, Nat.reduceLT, Nat.reduceLeDiff, not_false_eq_true, not_true_eq_false, Nat.reduceEqDiff, Nat.reduceAdd, reduceCtorEq, and_true, true_and, and_false, false_and, false_or, or_false, wx, n10, c1, c2, m4, hs1, p1]
  · refine ⟨-2, σ, N, ?_, fr_rf _ _, hk, fun τ hm hmr => ⟨_, ?_, thr τ, mr4_thr hmr⟩⟩
    · simp only [f_12051, h1, gd_tt, oA_arr, px_obj_s, Option.bind_some, Option.map_some, Option.bind_none, eq_self, true_or, or_true, px_av_0, px_av_1, px_av_2, px_av_10, px_av_11, bn, wi_1, wi_2, wl_1, wl_21, wl_22, wr_1, wr_21, wr_22, Sum.elim_inl, Sum.elim_inr, ↓reduceIte, Nat.reduceLT, Nat.reduceLeDiff, not_false_eq_true, not_true_eq_false, Nat.reduceEqDiff, Nat.reduceAdd, reduceCtorEq, and_true, true_and, and_false, false_and, false_or, or_false]
    · have wx := e_withinN (px_wi τ 0 0 (nI 0)) x (lo := 0) (hi := 3) (by omega) (by omega)
      rw [decide_eq_false hno, mb_f0] at wx
      simp only [f_130, wx, la_0, gd_tt, oA_arr, px_obj_s, Option.bind_some, Option.map_some, Option.bind_none, eq_self, true_or, or_true, px_av_0, px_av_1, px_av_2, px_av_10, px_av_11, bn, wi_1, wi_2, wl_1, wl_21, wl_22, wr_1, wr_21, wr_22, Sum.elim_inl, Sum.elim_inr, ↓reduceIte, Nat.reduceLT, Nat.reduceLeDiff, not_false_eq_true, not_true_eq_false, Nat.reduceEqDiff, Nat.reduceAdd, reduceCtorEq, and_true, true_and, and_false, false_and, false_or, or_false]
end
