/-! century -/
/-- a draw -/
def drw (x : Int32) : Int32 := nI 1103515245 * x + nI 12345
theorem ush_k (x : Int32) : ∃ k, k < 65536 ∧ (x.toUInt32 >>> ((nI 16).toUInt32 &&& Int32.toUInt32 31)).toInt32 = nI k := by
  refine ⟨bs (fun i => bt x (16 + i)) 16, bs_2n (m := 16) _ (Nat.le_refl 16), ?_⟩
  apply b_ext
  intro i hi
  rw [b_ushr 16 (by omega), bt_nI, bs_tb, decide_eq_true hi, Bool.true_and]
  by_cases h : i < 16
  · simp [h]
  · rw [b_big (by omega)]
    simp [h]
section
variable {σ τ : px_M} {n nr d : Nat} {B S C : Nat → Nat} {G : Nat → Nat → Int32}
theorem dm_le (hw : wf n B) : dm n B ≤ 61 := by
  have h1 := sm_le (f := fun h => bc 11 (B h)) (c := 11) (fun j => bc_le 11 _) n
  have h2 := hw.1
  unfold dm
  omega
theorem draw_v (x : Int32) {m : Nat} (hm : 0 < m) (hm2 : m ≤ 11) : ∃ k, k < m ∧ (x.toUInt32 >>> ((nI 16).toUInt32 &&& Int32.toUInt32 31)).toInt32 - (x.toUInt32 >>> ((nI 16).toUInt32 &&& Int32.toUInt32 31)).toInt32 / nI m * nI m = nI k := by
  obtain ⟨k, hk, e⟩ := ush_k x
  refine ⟨k % m, Nat.mod_lt _ hm, ?_⟩
  have h1 : k / m * m ≤ k := Nat.div_mul_le_self k m
  have h2 : k - k / m * m = k % m := by
    have := Nat.div_add_mod k m
    have h3 : m * (k / m) = k / m * m := Nat.mul_comm _ _
    omega
  rw [e, ni_divL (by omega) hm (by omega), pk_mul, ni_subL h1, h2]
theorem e_draw (hR : mR σ.2.2) {x : Int32} (h22 : σ.1 0 22 = x) {m : Nat} (hm : 0 < m) (hm2 : m < 2 ^ 31) : f_78 tT σ 0 (nI m) = some (((drw x).toUInt32 >>> ((nI 16).toUInt32 &&& Int32.toUInt32 31)).toInt32 - ((drw x).toUInt32 >>> ((nI 16).toUInt32 &&& Int32.toUInt32 31)).toInt32 / nI m * nI m, px_wi σ 0 22 (drw x)) := by
  have z : ¬ nI m = nI 0 := by rw [nI_eq hm2 (by omega)]; omega
  have e : nI 1103515245 * x + nI 12345 = drw x := rfl
  have e2 : (px_wi σ 0 22 (drw x)).1 0 22 = drw x := wi_s _ _ _ _
  rw [wi_1] at e2
  simp only [f_78, la_0, gd_tt, oA_arr, px_obj_s, Option.bind_some, Option.map_some, Option.bind_none, eq_self, true_or, or_true, px_av_0, px_av_1, px_av_2, px_av_10, px_av_11, bn, wi_1, wi_2, wl_1, wl_21, wl_22, wr_1, wr_21, wr_22, Sum.elim_inl, Sum.elim_inr, ↓reduceIte, Nat.reduceLT, Nat.reduceLeDiff, not_false_eq_true, not_true_eq_false, Nat.reduceEqDiff, Nat.reduceAdd, reduceCtorEq, and_true, true_and, and_false, false_and, false_or, or_false, z, h22, e, e2]
theorem lt0 (v : Nat) (hv : v < 2 ^ 31) : ¬ nI v < nI 0 := by rw [nI_ltI hv (by omega)]; omega
theorem m10 : ∀ v, v < 8 → (-10 - nI v : Int32) < nI 0 := by decide
theorem cent_joint (hru : rul nr S C) {m : Nat} (hm60 : m ≤ 60) (hn0 : 0 < n) : ∀ k j, j + k = m → ∀ B d G σ x (z : Nat), cld σ n B nr S C d G → ∃ r σ' B' d' G', f_12021_41 tT 100 (nI m) (nI n) x (nI z) (nI j) σ = some (r, σ') ∧ fr SCD σ σ' ∧ cld σ' n B' nr S C d' G' ∧ ∀ τ, modl τ n B nr S C d G → τ.1 0 22 = x → ∃ υ, f_79_42 tT 0 (nI m) (nI z) (nI j) τ = some (r, υ) ∧ fr SMD τ υ ∧ modl υ n B' nr S C d' G' := by
  intro k
  induction k with
  | zero =>
    intro j hj B d G σ x z hc
    have : j = m := by omega
    subst this
    have a1 : nI j ≤ nI j := by rw [nI_leI (by omega) (by omega)]; omega
    refine ⟨nI z, σ, B, d, G, ?_, fr_rf _ _, hc, fun τ hm hx => ⟨τ, ?_, fr_rf _ _, hm⟩⟩
    · unfold f_12021_41
      refine lp_end ?_
      simp only [F_12021_41, a1, ↓reduceIte]
    · unfold f_79_42
      refine lp_end ?_
      simp only [F_79_42, a1, ↓reduceIte]
  | succ k ih =>
    intro j hj B d G σ x z hc
    have a1 : ¬ nI m ≤ nI j := by rw [nI_leI (by omega) (by omega)]; omega
    have hw := hc.1.1.2.2.2.2.1
    have hn := hw.1
    have zn : ¬ nI n = nI 0 := by rw [nI_eq (by omega) (by omega)]; omega
    have z4 : ¬ nI 4 = nI 0 := by decide
    have k1 : vp_in (nI 1) 3216 := (vp_in_eq (by omega)).mpr (by omega)
    have k2 : (nI 1).toNatClampNeg = 1 := nI_clamp (by omega)
    have cd : ∀ (ρ : px_M) y, f_12059 tT ρ y = some (drw y) := fun _ _ => rfl
    obtain ⟨a, ha, ea⟩ := draw_v (drw x) hn0 hn
    obtain ⟨b, hb, eb⟩ := draw_v (drw (drw x)) hn0 hn
    obtain ⟨w, hw4, ew⟩ := draw_v (drw (drw (drw x))) (m := 4) (by omega) (by omega)
    -- the model's three draws
    have md : ∀ τ, modl τ n B nr S C d G → τ.1 0 22 = x → ∃ ω, modl ω n B nr S C d G ∧ fk SM τ ω ∧ ω.1 0 22 = drw (drw (drw x)) ∧ F_79_42 tT 0 (nI m) (nI z) (nI j) τ = f_79_87 tT ω 0 (nI m) (nI z) (nI j) (nI a) (nI b) (if w = 0 then nI 1 else nI 0) := by
      intro τ hm hx
      have hwd : ∀ {ρ : px_M} (y : Int32), fk SM ρ (px_wi ρ 0 22 y) := fun y => fk_of (fr_wi (fr_rf _ _) _ rfl) SM_1
      have r1 := e_draw hm.1.1.1 hx hn0 (show n < 2 ^ 31 by omega)
      rw [ea] at r1
      obtain ⟨τ1, hτ1⟩ : ∃ τ1, px_wi τ 0 22 (drw x) = τ1 := ⟨_, rfl⟩
      have f1 : fk SM τ τ1 := by rw [← hτ1]; exact hwd _
      have x1 : τ1.1 0 22 = drw x := by rw [← hτ1]; exact wi_s _ _ _ _
      rw [hτ1] at r1
      have m1 := modl_fk f1 hm
      have r2 := e_draw m1.1.1.1 x1 hn0 (show n < 2 ^ 31 by omega)
      rw [eb] at r2
      obtain ⟨τ2, hτ2⟩ : ∃ τ2, px_wi τ1 0 22 (drw (drw x)) = τ2 := ⟨_, rfl⟩
      have f2 : fk SM τ1 τ2 := by rw [← hτ2]; exact hwd _
      have x2 : τ2.1 0 22 = drw (drw x) := by rw [← hτ2]; exact wi_s _ _ _ _
      rw [hτ2] at r2
      have m2 := modl_fk f2 m1
      have r3 := e_draw m2.1.1.1 x2 (m := 4) (by omega) (by omega)
      rw [ew] at r3
      obtain ⟨τ3, hτ3⟩ : ∃ τ3, px_wi τ2 0 22 (drw (drw (drw x))) = τ3 := ⟨_, rfl⟩
      have f3 : fk SM τ2 τ3 := by rw [← hτ3]; exact hwd _
      have x3 : τ3.1 0 22 = drw (drw (drw x)) := by rw [← hτ3]; exact wi_s _ _ _ _
      rw [hτ3] at r3
      refine ⟨τ3, modl_fk f3 m2, fk_tr f1 (fk_tr f2 f3), x3, ?_⟩
      unfold F_79_42 f_79_72
      by_cases hw0 : w = 0
      · subst hw0
        simp only [a1, la_0, la_1, rm_0_1 hm.1.1.1, hm.1.1.2.2.1, rm_0_1 m1.1.1.1, m1.1.1.2.2.1, gd_tt, oA_arr, px_obj_s, Option.bind_some, Option.map_some, Option.bind_none, eq_self, true_or, or_true, px_av_0, px_av_1, px_av_2, px_av_10, px_av_11, bn, wi_1, wi_2, wl_1, wl_21, wl_22, wr_1, wr_21, wr_22, Sum.elim_inl, Sum.elim_inr, ↓reduceIte, Nat.reduceLT, Nat.reduceLeDiff, not_false_eq_true, not_true_eq_false, Nat.reduceEqDiff, Nat.reduceAdd, reduceCtorEq, and_true, true_and, and_false, false_and, false_or, or_false, k1, k2, r1, r2, r3]
      · have zw : ¬ nI w = nI 0 := by rw [nI_eq (by omega) (by omega)]; exact hw0
        simp only [a1, la_0, la_1, rm_0_1 hm.1.1.1, hm.1.1.2.2.1, rm_0_1 m1.1.1.1, m1.1.1.2.2.1, gd_tt, oA_arr, px_obj_s, Option.bind_some, Option.map_some, Option.bind_none, eq_self, true_or, or_true, px_av_0, px_av_1, px_av_2, px_av_10, px_av_11, bn, wi_1, wi_2, wl_1, wl_21, wl_22, wr_1, wr_21, wr_22, Sum.elim_inl, Sum.elim_inr, ↓reduceIte, Nat.reduceLT, Nat.reduceLeDiff, not_false_eq_true, not_true_eq_false, Nat.reduceEqDiff, Nat.reduceAdd, reduceCtorEq, and_true, true_and, and_false, false_and, false_or, or_false, k1, k2, r1, r2, r3, zw, hw0]
    have hBa := wf_2048 hw a
    have l3 : (nI (B a)).toInt64 = lN (B a) := nI_l (by omega)
    have fin : ∀ (υ : px_M) (v : Int32), f_12021_129 tT υ 100 (nI m) (nI n) (drw (drw (drw x))) (nI z) (nI j) v = some (.inl (drw (drw (drw x)), nI (if v < nI 0 then z else z + 1), nI (j + 1), υ)) := by
      intro υ v
      unfold f_12021_129
      by_cases q : v < nI 0
      · rw [if_pos q, if_pos q, nI_add]
      · rw [if_neg q, if_neg q, nI_add, nI_add]
    by_cases hw0 : w = 0
    · -- a wall
      subst hw0
      obtain ⟨ρ, q1, q2, q3⟩ := c_wall hc (nI a) (nI b)
      obtain ⟨r, σ', B', d', G', y1, y2, y3, y4⟩ := ih (j + 1) (by omega) _ _ _ ρ (drw (drw (drw x))) (if wlr n B (nI a) (nI b) < nI 0 then z else z + 1) q3
      refine ⟨r, σ', B', d', G', ?_, fr_tr q2 y2, y3, fun τ hm hx => ?_⟩
      · unfold f_12021_41 at y1 ⊢
        refine (lp_next ?_).trans y1
        simp only [F_12021_41, f_12021_63, f_12021_79, a1, cd, zn, z4, la_100, gd_tt, oA_arr, px_obj_s, Option.bind_some, Option.map_some, Option.bind_none, eq_self, true_or, or_true, px_av_0, px_av_1, px_av_2, px_av_10, px_av_11, bn, wi_1, wi_2, wl_1, wl_21, wl_22, wr_1, wr_21, wr_22, Sum.elim_inl, Sum.elim_inr, ↓reduceIte, Nat.reduceLT, Nat.reduceLeDiff, not_false_eq_true, not_true_eq_false, Nat.reduceEqDiff, Nat.reduceAdd, reduceCtorEq, and_true, true_and, and_false, false_and, false_or, or_false, ea, eb, ew, q1, fin]
      · obtain ⟨ω, g1, g2, g3, g4⟩ := md τ hm hx
        rw [if_pos rfl] at g4
        have n1 := e_near g1.1.1 (show a < 11 by omega)
        have n2 := e_isIn ω (s := B a) (j := b) (by omega) (by omega)
        cases hq : (B a).testBit b with
        | false =>
          have h0 : ¬ wlx n B (nI a) (nI b) = 0 := fun q => by
            obtain ⟨a', b', h1, h2, h3, h4, h5, h6⟩ := wlx_0 hn q
            have e1 := (nI_eq (by omega) (by omega)).mp h4
            have e2 := (nI_eq (by omega) (by omega)).mp h5
            rw [← e1, ← e2, hq] at h6
            cases h6
          have hle := wlx_le (n := n) (B := B) (nI a) (nI b)
          have hneg : wlr n B (nI a) (nI b) < nI 0 := by unfold wlr; rw [if_neg h0]; exact m10 _ (by omega)
          rw [if_pos hneg] at y4
          have eB : wlB n B (nI a) (nI b) = B := by unfold wlB; rw [if_neg h0]
          have eD : dd (wlx n B (nI a) (nI b) = 0) d = d := by unfold dd; rw [if_neg h0]
          have eG : dG (wlx n B (nI a) (nI b) = 0) n B G = G := by unfold dG; rw [if_neg h0]
          rw [eB, eD, eG] at y4
          obtain ⟨υ, p1, p2, p3⟩ := y4 ω g1 g3
          rw [hq, mb_f0] at n2
          refine ⟨υ, ?_, fr_tr (fr_fk g2) p2, p3⟩
          unfold f_79_42 at p1 ⊢
          refine (lp_next (a' := (nI z, nI (j + 1), ω)) ?_).trans p1
          refine g4.trans ?_
          simp only [f_79_87, f_79_160, la_0, gd_tt, oA_arr, px_obj_s, Option.bind_some, Option.map_some, Option.bind_none, eq_self, true_or, or_true, px_av_0, px_av_1, px_av_2, px_av_10, px_av_11, bn, wi_1, wi_2, wl_1, wl_21, wl_22, wr_1, wr_21, wr_22, Sum.elim_inl, Sum.elim_inr, ↓reduceIte, Nat.reduceLT, Nat.reduceLeDiff, not_false_eq_true, not_true_eq_false, Nat.reduceEqDiff, Nat.reduceAdd, reduceCtorEq, and_true, true_and, and_false, false_and, false_or, or_false, n10, n1, l3, n2, nI_add]
        | true =>
          have hab : a ≠ b := fun q => by rw [q, hw.2.2.2.2] at hq; cases hq
          have h0 : wlx n B (nI a) (nI b) = 0 := by rw [wlx_in hn ha hb hab, if_pos hq]
          have t1 : (nI a).toInt.toNat = a := by rw [nI_toInt (by omega)]; rfl
          have t2 : (nI b).toInt.toNat = b := by rw [nI_toInt (by omega)]; rfl
          have eB : wlB n B (nI a) (nI b) = wl B a b := by unfold wlB; rw [if_pos h0, t1, t2]
          have eD : dd (wlx n B (nI a) (nI b) = 0) d = inc d := by unfold dd; rw [if_pos h0]
          have eG : dG (wlx n B (nI a) (nI b) = 0) n B G = psh G (trow n B) := by unfold dG; rw [if_pos h0]
          have hnn : ¬ wlr n B (nI a) (nI b) < nI 0 := by
            unfold wlr
            rw [if_pos h0, eB]
            exact lt0 _ (by have := dm_le (wf_wl hw hab); omega)
          rw [if_neg hnn, eB, eD, eG] at y4
          obtain ⟨α, β, z1, z2, z3, z5, z6⟩ := e_deed g1 (fun ρ => f_59 tT ρ 0 (nI a) (nI b)) (fun ρ hm => by
            obtain ⟨χ, z1, z2, z3⟩ := e_walls hm ha hb hab
            exact ⟨χ, z1, tn_20 z2, z3⟩)
          have hx3 : β.1 0 22 = drw (drw (drw x)) := by
            obtain ⟨χ, u1, u2, u3⟩ := e_notes g1.1.1.1 g1.2
            rw [u1] at z1
            cases z1
            obtain ⟨χ2, v1, v2, v3⟩ := e_walls z2 ha hb hab
            have z3' : f_59 tT α 0 (nI a) (nI b) = some β := z3
            rw [v1] at z3'
            cases z3'
            rw [v2.1 0 22 rfl, u2.1 0 22 rfl]
            exact g3
          obtain ⟨υ, p1, p2, p3⟩ := y4 β z6 hx3
          rw [hq, mb_t1] at n2
          refine ⟨υ, ?_, fr_tr (fr_fk g2) (fr_tr z5 p2), p3⟩
          unfold f_79_42 at p1 ⊢
          refine (lp_next (a' := (nI (z + 1), nI (j + 1), β)) ?_).trans p1
          refine g4.trans ?_
          simp only [f_79_87, f_79_126, f_79_157, f_79_160, la_0, gd_tt, oA_arr, px_obj_s, Option.bind_some, Option.map_some, Option.bind_none, eq_self, true_or, or_true, px_av_0, px_av_1, px_av_2, px_av_10, px_av_11, bn, wi_1, wi_2, wl_1, wl_21, wl_22, wr_1, wr_21, wr_22, Sum.elim_inl, Sum.elim_inr, ↓reduceIte, Nat.reduceLT, Nat.reduceLeDiff, not_false_eq_true, not_true_eq_false, Nat.reduceEqDiff, Nat.reduceAdd, reduceCtorEq, and_true, true_and, and_false, false_and, false_or, or_false, n10, n1, l3, n2, z1, z3, nI_add]
    · -- a door
      obtain ⟨ρ, q1, q2, q3⟩ := c_join hc (nI a) (nI b)
      have zw : ¬ nI w = nI 0 := by rw [nI_eq (by omega) (by omega)]; exact hw0
      obtain ⟨r, σ', B', d', G', y1, y2, y3, y4⟩ := ih (j + 1) (by omega) _ _ _ ρ (drw (drw (drw x))) (if jnr n B nr S C (nI a) (nI b) < nI 0 then z else z + 1) q3
      refine ⟨r, σ', B', d', G', ?_, fr_tr q2 y2, y3, fun τ hm hx => ?_⟩
      · unfold f_12021_41 at y1 ⊢
        refine (lp_next ?_).trans y1
        simp only [F_12021_41, f_12021_63, f_12021_79, a1, cd, zn, z4, la_100, gd_tt, oA_arr, px_obj_s, Option.bind_some, Option.map_some, Option.bind_none, eq_self, true_or, or_true, px_av_0, px_av_1, px_av_2, px_av_10, px_av_11, bn, wi_1, wi_2, wl_1, wl_21, wl_22, wr_1, wr_21, wr_22, Sum.elim_inl, Sum.elim_inr, ↓reduceIte, Nat.reduceLT, Nat.reduceLeDiff, not_false_eq_true, not_true_eq_false, Nat.reduceEqDiff, Nat.reduceAdd, reduceCtorEq, and_true, true_and, and_false, false_and, false_or, or_false, ea, eb, ew, zw, q1, fin]
      · obtain ⟨ω, g1, g2, g3, g4⟩ := md τ hm hx
        rw [if_neg hw0] at g4
        obtain ⟨ψ, n1, n2⟩ := e_rjx g1.1 hru (nI a) (nI b)
        have hle := rjx_le (n := n) (B := B) (nr := nr) (S := S) (C := C) (nI a) (nI b)
        have n2' := fk_mono n2 SM_RQ
        have g5 := modl_fk n2' g1
        have g6 : ψ.1 0 22 = drw (drw (drw x)) := by rw [n2.1.1 0 22 rfl]; exact g3
        by_cases h0 : rjx n B nr S C (nI a) (nI b) = 0
        · obtain ⟨a', b', h1, h2, h3, h4, h5⟩ := rjx_0 hn h0
          have hab : a ≠ b := by
            have e1 := (nI_eq (by omega) (by omega)).mp h4
            have e2 := (nI_eq (by omega) (by omega)).mp h5
            omega
          have t1 : (nI a).toInt.toNat = a := by rw [nI_toInt (by omega)]; rfl
          have t2 : (nI b).toInt.toNat = b := by rw [nI_toInt (by omega)]; rfl
          have eB : jnB n B nr S C (nI a) (nI b) = jn B a b := by unfold jnB; rw [if_pos h0, t1, t2]
          have eD : dd (rjx n B nr S C (nI a) (nI b) = 0) d = inc d := by unfold dd; rw [if_pos h0]
          have eG : dG (rjx n B nr S C (nI a) (nI b) = 0) n B G = psh G (trow n B) := by unfold dG; rw [if_pos h0]
          have hnn : ¬ jnr n B nr S C (nI a) (nI b) < nI 0 := by
            unfold jnr
            rw [if_pos h0, eB]
            exact lt0 _ (by have := dm_le (wf_jn hw ha hb hab); omega)
          rw [if_neg hnn, eB, eD, eG] at y4
          obtain ⟨α, β, z1, z2, z3, z5, z6⟩ := e_deed g5 (fun ρ => f_15 tT ρ 1 (nI a) (nI b)) (fun ρ hm => by
            obtain ⟨χ, z1, z2, z3⟩ := e_joins hm ha hb hab
            exact ⟨χ, z1, tn_20 z2, z3⟩)
          have hx3 : β.1 0 22 = drw (drw (drw x)) := by
            obtain ⟨χ, u1, u2, u3⟩ := e_notes g5.1.1.1 g5.2
            rw [u1] at z1
            cases z1
            obtain ⟨χ2, v1, v2, v3⟩ := e_joins z2 ha hb hab
            have z3' : f_15 tT α 1 (nI a) (nI b) = some β := z3
            rw [v1] at z3'
            cases z3'
            rw [v2.1 0 22 rfl, u2.1 0 22 rfl]
            exact g6
          obtain ⟨υ, p1, p2, p3⟩ := y4 β z6 hx3
          rw [h0] at n1
          refine ⟨υ, ?_, fr_tr (fr_fk g2) (fr_tr (fr_fk n2') (fr_tr z5 p2)), p3⟩
          unfold f_79_42 at p1 ⊢
          refine (lp_next (a' := (nI (z + 1), nI (j + 1), β)) ?_).trans p1
          refine g4.trans ?_
          simp only [f_79_87, f_79_126, f_79_157, f_79_160, la_0, gd_tt, oA_arr, px_obj_s, Option.bind_some, Option.map_some, Option.bind_none, eq_self, true_or, or_true, px_av_0, px_av_1, px_av_2, px_av_10, px_av_11, bn, wi_1, wi_2, wl_1, wl_21, wl_22, wr_1, wr_21, wr_22, Sum.elim_inl, Sum.elim_inr, ↓reduceIte, Nat.reduceLT, Nat.reduceLeDiff, not_false_eq_true, not_true_eq_false, Nat.reduceEqDiff, Nat.reduceAdd, reduceCtorEq, and_true, true_and, and_false, false_and, false_or, or_false, n1, z1, rm_0_1 z2.1, z3, nI_add]
        · have zr : ¬ nI (rjx n B nr S C (nI a) (nI b)) = nI 0 := by rw [nI_eq (by omega) (by omega)]; exact h0
          have hneg : jnr n B nr S C (nI a) (nI b) < nI 0 := by unfold jnr; rw [if_neg h0]; exact m10 _ (by omega)
          have eB : jnB n B nr S C (nI a) (nI b) = B := by unfold jnB; rw [if_neg h0]
          have eD : dd (rjx n B nr S C (nI a) (nI b) = 0) d = d := by unfold dd; rw [if_neg h0]
          have eG : dG (rjx n B nr S C (nI a) (nI b) = 0) n B G = G := by unfold dG; rw [if_neg h0]
          rw [if_pos hneg, eB, eD, eG] at y4
          obtain ⟨υ, p1, p2, p3⟩ := y4 ψ g5 g6
          refine ⟨υ, ?_, fr_tr (fr_fk g2) (fr_tr (fr_fk n2') p2), p3⟩
          unfold f_79_42 at p1 ⊢
          refine (lp_next (a' := (nI z, nI (j + 1), ψ)) ?_).trans p1
          refine g4.trans ?_
          simp only [f_79_87, f_79_160, la_0, gd_tt, oA_arr, px_obj_s, Option.bind_some, Option.map_some, Option.bind_none, eq_self, true_or, or_true, px_av_0, px_av_1, px_av_2, px_av_10, px_av_11, bn, wi_1, wi_2, wl_1, wl_21, wl_22, wr_1, wr_21, wr_22, Sum.elim_inl, Sum.elim_inr, ↓reduceIte, Nat.reduceLT, Nat.reduceLeDiff, not_false_eq_true, not_true_eq_false, Nat.reduceEqDiff, Nat.reduceAdd, reduceCtorEq, and_true, true_and, and_false, false_and, false_or, or_false, n1, zr, nI_add]
theorem a_century (hc : cld σ n B nr S C d G) (x y : Int32) : agD σ (f_12021 tT σ 100 x y) (fun τ => f_79 tT τ 0 x y) n B nr S C d G := by
  have hru := hc.1.2.2
  have hR := hc.1.1.1
  have hn := hc.1.1.2.2.2.2.1.1
  have e1 := hc.1.1.2.2.2.2.2.1
  have k1 : vp_in (nI 1) 3216 := (vp_in_eq (by omega)).mpr (by omega)
  have k2 : (nI 1).toNatClampNeg = 1 := nI_clamp (by omega)
  rcases rg_cases y 1 60 (by omega) with ⟨m, h1, h2, rfl⟩ | hno
  · have a1 : ¬ nI m < nI 1 := by rw [nI_ltI (by omega) (by omega)]; omega
    have a2 : nI m ≤ nI 60 := by rw [nI_leI (by omega) (by omega)]; omega
    have w0 : ∀ ω, f_2 tT ω (nI m).toInt64 (lN 1) (lN 60) = some (nI 1) := fun ω => by
      rw [e_withinN ω (nI m) (lo := 1) (hi := 60) (by omega) (by omega), decide_eq_true (by rw [nI_toInt (by omega)]; omega), mb_t1]
    by_cases hn0 : n = 0
    · have a3 : ¬ nI 0 < nI n := by rw [nI_ltI (by omega) (by omega)]; omega
      refine ⟨-5, σ, n, B, d, G, ?_, fr_rf _ _, hc, fun τ hm => ⟨_, ?_, fr_fk fk_thr, modl_thr hm⟩⟩
      · simp only [f_12021, a1, a2, la_100, la_110, la_111, rc_100_0 hR, rc_110_0 hR, gd_tt, oA_arr, px_obj_s, Option.bind_some, Option.map_some, Option.bind_none, eq_self, true_or, or_true, px_av_0, px_av_1, px_av_2, px_av_10, px_av_11, bn, wi_1, wi_2, wl_1, wl_21, wl_22, wr_1, wr_21, wr_22, Sum.elim_inl, Sum.elim_inr, ↓reduceIte, Nat.reduceLT, Nat.reduceLeDiff, not_false_eq_true, not_true_eq_false, Nat.reduceEqDiff, Nat.reduceAdd, reduceCtorEq, and_true, true_and, and_false, false_and, false_or, or_false, e1, a3]
      · have hmt := modl_thr hm
        show f_79 tT τ 0 x (nI m) = _
        unfold f_79
        generalize px_wi τ 0 0 (nI 0) = ω at hmt ⊢
        have e2 := hmt.1.1.2.2.1
        rw [hn0] at e2
        simp only [la_0, la_1, rm_0_1 hmt.1.1.1, gd_tt, oA_arr, px_obj_s, Option.bind_some, Option.map_some, Option.bind_none, eq_self, true_or, or_true, px_av_0, px_av_1, px_av_2, px_av_10, px_av_11, bn, wi_1, wi_2, wl_1, wl_21, wl_22, wr_1, wr_21, wr_22, Sum.elim_inl, Sum.elim_inr, ↓reduceIte, Nat.reduceLT, Nat.reduceLeDiff, not_false_eq_true, not_true_eq_false, Nat.reduceEqDiff, Nat.reduceAdd, reduceCtorEq, and_true, true_and, and_false, false_and, false_or, or_false, w0, n10, k1, k2, e2]
    · have a3 : nI 0 < nI n := by rw [nI_ltI (by omega) (by omega)]; omega
      obtain ⟨r, σ', B', d', G', q1, q2, q3, q4⟩ := cent_joint hru h2 (show 0 < n by omega) m 0 (by omega) B d G σ x 0 hc
      refine ⟨r, σ', n, B', d', G', ?_, q2, q3, fun τ hm => ?_⟩
      · simp only [f_12021, a1, a2, la_100, la_110, la_111, rc_100_0 hR, rc_110_0 hR, gd_tt, oA_arr, px_obj_s, Option.bind_some, Option.map_some, Option.bind_none, eq_self, true_or, or_true, px_av_0, px_av_1, px_av_2, px_av_10, px_av_11, bn, wi_1, wi_2, wl_1, wl_21, wl_22, wr_1, wr_21, wr_22, Sum.elim_inl, Sum.elim_inr, ↓reduceIte, Nat.reduceLT, Nat.reduceLeDiff, not_false_eq_true, not_true_eq_false, Nat.reduceEqDiff, Nat.reduceAdd, reduceCtorEq, and_true, true_and, and_false, false_and, false_or, or_false, e1, a3, q1]
      · have hmt := modl_thr hm
        have hfk : fk SM τ (px_wi τ 0 0 (nI 0)) := fk_thr
        show ∃ υ, f_79 tT τ 0 x (nI m) = _ ∧ _
        unfold f_79
        generalize px_wi τ 0 0 (nI 0) = ω at hmt hfk ⊢
        have h22 : fk SM ω (px_wi ω 0 22 x) := fk_of (fr_wi (fr_rf _ _) _ rfl) SM_1
        have e2 := hmt.1.1.2.2.1
        have zn : ¬ nI n = nI 0 := by rw [nI_eq (by omega) (by omega)]; exact hn0
        obtain ⟨υ, p1, p2, p3⟩ := q4 _ (modl_fk h22 hmt) (wi_s _ _ _ _)
        refine ⟨υ, ?_, fr_tr (fr_fk hfk) (fr_tr (fr_fk h22) p2), p3⟩
        simp only [f_79_39, la_0, la_1, rm_0_1 hmt.1.1.1, gd_tt, oA_arr, px_obj_s, Option.bind_some, Option.map_some, Option.bind_none, eq_self, true_or, or_true, px_av_0, px_av_1, px_av_2, px_av_10, px_av_11, bn, wi_1, wi_2, wl_1, wl_21, wl_22, wr_1, wr_21, wr_22, Sum.elim_inl, Sum.elim_inr, ↓reduceIte, Nat.reduceLT, Nat.reduceLeDiff, not_false_eq_true, not_true_eq_false, Nat.reduceEqDiff, Nat.reduceAdd, reduceCtorEq, and_true, true_and, and_false, false_and, false_or, or_false, w0, n10, k1, k2, e2, zn, p1]
  · refine ⟨-3, σ, n, B, d, G, ?_, fr_rf _ _, hc, fun τ hm => ⟨_, ?_, fr_fk fk_thr, modl_thr hm⟩⟩
    · unfold f_12021
      exact rg_no (by omega) (by omega) hno
    · have w0 := e_withinN (px_wi τ 0 0 (nI 0)) y (lo := 1) (hi := 60) (by omega) (by omega)
      rw [decide_eq_false hno, mb_f0] at w0
      simp only [f_79, la_0, gd_tt, oA_arr, px_obj_s, Option.bind_some, Option.map_some, Option.bind_none, eq_self, true_or, or_true, px_av_0, px_av_1, px_av_2, px_av_10, px_av_11, bn, wi_1, wi_2, wl_1, wl_21, wl_22, wr_1, wr_21, wr_22, Sum.elim_inl, Sum.elim_inr, ↓reduceIte, Nat.reduceLT, Nat.reduceLeDiff, not_false_eq_true, not_true_eq_false, Nat.reduceEqDiff, Nat.reduceAdd, reduceCtorEq, and_true, true_and, and_false, false_and, false_or, or_false, w0]
end
