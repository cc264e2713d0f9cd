/-! changing, dearness -/
section
variable {σ τ : px_M} {n nr : Nat} {B S C : Nat → Nat}
noncomputable def chg (n : Nat) (j w : Nat) (B : Nat → Nat) (o : Option (Nat × Nat)) : Int32 := if w = 0 then nI j else if w = 1 then nI (dm n B) else if o.isSome = true then nI 0 else nI 1
theorem SC_231 : ∀ l j, SC l j = false → tw2 231 l j = false := fun l j h => by
  simp only [SC, Bool.and_eq_false_iff, decide_eq_false_iff_not] at h
  exact tw2_n (by omega) (by omega)
/-- the model's end -/
theorem e_chgEnd (hm : mor τ n B nr S C) (hru : rul nr S C) {c w j : Nat} (hc99 : c ≤ 99) (hw2 : w ≤ 2) : ∃ o υ, f_125_66 tT τ 0 (nI c) (nI w) (nI j) = some (chg n j w B o, υ) ∧ nxt n B nr S C c o ∧ fr RQt τ υ ∧ ∀ k, k < 12 → υ.1 1 (1 + k) = τ.1 18 k := by
  obtain ⟨o, ρ, q1, q2, q3⟩ := e_chk hm hru hc99
  have mρ := mor_fk q3 hm
  obtain ⟨υ, p1, p2, p3⟩ := e_isAgain mρ.1.1 la_18 (by decide)
  have d1 := e_doorMany hm.1
  refine ⟨o, υ, ?_, q2, fr_tr (fk_RQt q3) (tn_RQt p2), fun k hk => by rw [p3 k hk, q3.1.1 18 k rfl]⟩
  have hq : w = 0 ∨ w = 1 ∨ w = 2 := by omega
  have z2 : ¬ nI 2 = nI 0 := by decide
  have z21 : ¬ nI 2 = nI 1 := by decide
  unfold chg
  cases ho : o with
  | none =>
    rw [ho] at q1
    simp only [Option.isSome_none, mb_f0] at q1
    rcases hq with rfl | rfl | rfl
    · simp only [f_125_66, f_125_88, la_0, gd_tt, oA_arr, px_obj_s, Option.bind_some, Option.map_some, Option.bind_none, eq_self, true_or, or_true, px_av_0, px_av_1, px_av_2, px_av_10, px_av_11, bn, wi_1, wi_2, wl_1, wl_21, wl_22, wr_1, wr_21, wr_22, Sum.elim_inl, Sum.elim_inr, ↓reduceIte, Nat.reduceLT, Nat.reduceLeDiff, not_false_eq_true, not_true_eq_false, Nat.reduceEqDiff, Nat.reduceAdd, reduceCtorEq, and_true, true_and, and_false, false_and, false_or, or_false, d1, q1, rm_0_18 mρ.1.1, p1]
    · simp only [f_125_66, f_125_88, la_0, gd_tt, oA_arr, px_obj_s, Option.bind_some, Option.map_some, Option.bind_none, eq_self, true_or, or_true, px_av_0, px_av_1, px_av_2, px_av_10, px_av_11, bn, wi_1, wi_2, wl_1, wl_21, wl_22, wr_1, wr_21, wr_22, Sum.elim_inl, Sum.elim_inr, ↓reduceIte, Nat.reduceLT, Nat.reduceLeDiff, not_false_eq_true, not_true_eq_false, Nat.reduceEqDiff, Nat.reduceAdd, reduceCtorEq, and_true, true_and, and_false, false_and, false_or, or_false, d1, q1, rm_0_18 mρ.1.1, p1, n10, Nat.one_ne_zero]
    · simp only [f_125_66, f_125_88, la_0, gd_tt, oA_arr, px_obj_s, Option.bind_some, Option.map_some, Option.bind_none, eq_self, true_or, or_true, px_av_0, px_av_1, px_av_2, px_av_10, px_av_11, bn, wi_1, wi_2, wl_1, wl_21, wl_22, wr_1, wr_21, wr_22, Sum.elim_inl, Sum.elim_inr, ↓reduceIte, Nat.reduceLT, Nat.reduceLeDiff, not_false_eq_true, not_true_eq_false, Nat.reduceEqDiff, Nat.reduceAdd, reduceCtorEq, and_true, true_and, and_false, false_and, false_or, or_false, d1, q1, rm_0_18 mρ.1.1, p1, z2, z21, Option.isSome_none, Bool.false_eq_true]
  | some p =>
    rw [ho] at q1
    simp only [Option.isSome_some, mb_t1] at q1
    rcases hq with rfl | rfl | rfl
    · simp only [f_125_66, f_125_88, la_0, gd_tt, oA_arr, px_obj_s, Option.bind_some, Option.map_some, Option.bind_none, eq_self, true_or, or_true, px_av_0, px_av_1, px_av_2, px_av_10, px_av_11, bn, wi_1, wi_2, wl_1, wl_21, wl_22, wr_1, wr_21, wr_22, Sum.elim_inl, Sum.elim_inr, ↓reduceIte, Nat.reduceLT, Nat.reduceLeDiff, not_false_eq_true, not_true_eq_false, Nat.reduceEqDiff, Nat.reduceAdd, reduceCtorEq, and_true, true_and, and_false, false_and, false_or, or_false, d1, q1, rm_0_18 mρ.1.1, p1, n10]
    · simp only [f_125_66, f_125_88, la_0, gd_tt, oA_arr, px_obj_s, Option.bind_some, Option.map_some, Option.bind_none, eq_self, true_or, or_true, px_av_0, px_av_1, px_av_2, px_av_10, px_av_11, bn, wi_1, wi_2, wl_1, wl_21, wl_22, wr_1, wr_21, wr_22, Sum.elim_inl, Sum.elim_inr, ↓reduceIte, Nat.reduceLT, Nat.reduceLeDiff, not_false_eq_true, not_true_eq_false, Nat.reduceEqDiff, Nat.reduceAdd, reduceCtorEq, and_true, true_and, and_false, false_and, false_or, or_false, d1, q1, rm_0_18 mρ.1.1, p1, n10, Nat.one_ne_zero]
    · simp only [f_125_66, f_125_88, la_0, gd_tt, oA_arr, px_obj_s, Option.bind_some, Option.map_some, Option.bind_none, eq_self, true_or, or_true, px_av_0, px_av_1, px_av_2, px_av_10, px_av_11, bn, wi_1, wi_2, wl_1, wl_21, wl_22, wr_1, wr_21, wr_22, Sum.elim_inl, Sum.elim_inr, ↓reduceIte, Nat.reduceLT, Nat.reduceLeDiff, not_false_eq_true, not_true_eq_false, Nat.reduceEqDiff, Nat.reduceAdd, reduceCtorEq, and_true, true_and, and_false, false_and, false_or, or_false, d1, q1, rm_0_18 mρ.1.1, p1, z2, z21, n10, Option.isSome_some]
theorem chg_joint (hru : rul nr S C) {c w : Nat} (hc99 : c ≤ 99) (hw2 : w ≤ 2) : ∀ k j, j + k = 60 → ∀ B σ o, mkt σ n B nr S C → nxt n B nr S C c o → ∃ r σ', f_12047_62 tT 100 (nI c) (nI w) (nI j) (oP o) (nI j) σ = some (r, σ') ∧ fr SC σ σ' ∧ ∀ τ, mor τ n B nr S C → ∃ υ, f_125_45 tT 0 (nI c) (nI w) (nI j) τ = some (r, υ) ∧ fr RQt τ υ ∧ ∀ k, k < 12 → υ.1 1 (1 + k) = τ.1 18 k := by
  have hq : w = 0 ∨ w = 1 ∨ w = 2 := by omega
  have z2 : ¬ nI 2 = nI 0 := by decide
  have z21 : ¬ nI 2 = nI 1 := by decide
  intro k
  induction k with
  | zero =>
    intro j hj B σ o hm ho
    have : j = 60 := by omega
    subst this
    have hn := hm.2.1.2.2.2.1.1
    have hop := oP_n (o := o) (fun p hp => by subst hp; have := nxt_in ho; omega)
    have a1 : nI 60 ≤ nI 60 := by decide
    refine ⟨chg n 60 w B o, σ, ?_, fr_rf _ _, fun τ hmτ => ?_⟩
    · unfold f_12047_62
      refine lp_end ?_
      dsimp only
      unfold F_12047_62 chg
      rcases hq with rfl | rfl | rfl
      · simp only [a1, ↓reduceIte]
      · simp only [a1, n10, la_100, la_230, la_231, rc_100_11 hm.1, rc_230_0 hm.1, c_doors hm.2.1, gd_tt, oA_arr, px_obj_s, Option.bind_some, Option.map_some, Option.bind_none, eq_self, true_or, or_true, px_av_0, px_av_1, px_av_2, px_av_10, px_av_11, bn, wi_1, wi_2, wl_1, wl_21, wl_22, wr_1, wr_21, wr_22, Sum.elim_inl, Sum.elim_inr, ↓reduceIte, Nat.reduceLT, Nat.reduceLeDiff, not_false_eq_true, not_true_eq_false, Nat.reduceEqDiff, Nat.reduceAdd, reduceCtorEq, and_true, true_and, and_false, false_and, false_or, or_false, Nat.one_ne_zero]
      · cases hoo : o with
        | none =>
          have z : oP none = -1 := rfl
          simp only [a1, z2, z21, gd_tt, oA_arr, px_obj_s, Option.bind_some, Option.map_some, Option.bind_none, eq_self, true_or, or_true, px_av_0, px_av_1, px_av_2, px_av_10, px_av_11, bn, wi_1, wi_2, wl_1, wl_21, wl_22, wr_1, wr_21, wr_22, Sum.elim_inl, Sum.elim_inr, ↓reduceIte, Nat.reduceLT, Nat.reduceLeDiff, not_false_eq_true, not_true_eq_false, Nat.reduceEqDiff, Nat.reduceAdd, reduceCtorEq, and_true, true_and, and_false, false_and, false_or, or_false, z, Option.isSome_none, Bool.false_eq_true]
        | some p =>
          rw [hoo] at hop
          have z : ¬ oP (some p) = -1 := fun q => by have := hop.mp q; cases this
          simp only [a1, z2, z21, gd_tt, oA_arr, px_obj_s, Option.bind_some, Option.map_some, Option.bind_none, eq_self, true_or, or_true, px_av_0, px_av_1, px_av_2, px_av_10, px_av_11, bn, wi_1, wi_2, wl_1, wl_21, wl_22, wr_1, wr_21, wr_22, Sum.elim_inl, Sum.elim_inr, ↓reduceIte, Nat.reduceLT, Nat.reduceLeDiff, not_false_eq_true, not_true_eq_false, Nat.reduceEqDiff, Nat.reduceAdd, reduceCtorEq, and_true, true_and, and_false, false_and, false_or, or_false, z, Option.isSome_some]
    · obtain ⟨o', υ, q1, q2, q3, q4⟩ := e_chgEnd (w := w) (j := 60) hmτ hru hc99 hw2
      have := nxt_uniq ho q2
      subst this
      refine ⟨υ, ?_, q3, q4⟩
      unfold f_125_45
      refine lp_end ?_
      dsimp only
      unfold F_125_45
      rw [if_pos a1, q1]
      rfl
  | succ k ih =>
    intro j hj B σ o hm ho
    have hn := hm.2.1.2.2.2.1.1
    have hw := hm.2.1.2.2.2.1
    have a1 : ¬ nI 60 ≤ nI j := by rw [nI_leI (by omega) (by omega)]; omega
    have hop := oP_n (o := o) (fun p hp => by subst hp; have := nxt_in ho; omega)
    cases hoo : o with
    | none =>
      subst hoo
      have z : oP none = -1 := rfl
      refine ⟨chg n j w B none, σ, ?_, fr_rf _ _, fun τ hmτ => ?_⟩
      · unfold f_12047_62
        refine lp_end ?_
        dsimp only
        unfold F_12047_62 chg
        rcases hq with rfl | rfl | rfl
        · simp only [a1, z, ↓reduceIte]
        · simp only [a1, z, n10, la_100, la_230, la_231, rc_100_11 hm.1, rc_230_0 hm.1, c_doors hm.2.1, gd_tt, oA_arr, px_obj_s, Option.bind_some, Option.map_some, Option.bind_none, eq_self, true_or, or_true, px_av_0, px_av_1, px_av_2, px_av_10, px_av_11, bn, wi_1, wi_2, wl_1, wl_21, wl_22, wr_1, wr_21, wr_22, Sum.elim_inl, Sum.elim_inr, ↓reduceIte, Nat.reduceLT, Nat.reduceLeDiff, not_false_eq_true, not_true_eq_false, Nat.reduceEqDiff, Nat.reduceAdd, reduceCtorEq, and_true, true_and, and_false, false_and, false_or, or_false, Nat.one_ne_zero]
        · simp only [a1, z, z2, z21, gd_tt, oA_arr, px_obj_s, Option.bind_some, Option.map_some, Option.bind_none, eq_self, true_or, or_true, px_av_0, px_av_1, px_av_2, px_av_10, px_av_11, bn, wi_1, wi_2, wl_1, wl_21, wl_22, wr_1, wr_21, wr_22, Sum.elim_inl, Sum.elim_inr, ↓reduceIte, Nat.reduceLT, Nat.reduceLeDiff, not_false_eq_true, not_true_eq_false, Nat.reduceEqDiff, Nat.reduceAdd, reduceCtorEq, and_true, true_and, and_false, false_and, false_or, or_false, Option.isSome_none, Bool.false_eq_true]
      · obtain ⟨o1, ρ, w1, w2, w3, w4⟩ := e_changes hmτ hru hc99 (Or.inr rfl)
        have := nxt_uniq ho w2
        subst this
        rw [if_pos rfl] at w4
        simp only [Option.isSome_none, mb_f0] at w1
        obtain ⟨o', υ, q1, q2, q3, q4⟩ := e_chgEnd (w := w) (j := j) (show mor ρ n B nr S C from w4) hru hc99 hw2
        have := nxt_uniq ho q2
        subst this
        refine ⟨υ, ?_, fr_tr w3 q3, fun k hk => by rw [q4 k hk, w3.1 18 k rfl]⟩
        unfold f_125_45
        refine lp_end ?_
        dsimp only
        unfold F_125_45
        simp only [a1, la_0, gd_tt, oA_arr, px_obj_s, Option.bind_some, Option.map_some, Option.bind_none, eq_self, true_or, or_true, px_av_0, px_av_1, px_av_2, px_av_10, px_av_11, bn, wi_1, wi_2, wl_1, wl_21, wl_22, wr_1, wr_21, wr_22, Sum.elim_inl, Sum.elim_inr, ↓reduceIte, Nat.reduceLT, Nat.reduceLeDiff, not_false_eq_true, not_true_eq_false, Nat.reduceEqDiff, Nat.reduceAdd, reduceCtorEq, and_true, true_and, and_false, false_and, false_or, or_false, w1, q1]
    | some p =>
      subst hoo
      obtain ⟨p1, p2⟩ := nxt_in ho
      have z : ¬ oP (some p) = -1 := fun q => by have := hop.mp q; cases this
      have hacp : acp n (lN (100 * p.1 + p.2)) p.1 p.2 := ⟨by omega, p2, by omega, rfl⟩
      obtain ⟨ρ, w1, w2, w3⟩ := c_turnD hm.2.1 hacp
      have el : (oP (some p)).toInt64 = lN (100 * p.1 + p.2) := nI_l (by omega)
      have hmρ : mkt ρ n (tdB B p.1 p.2) nr S C := ⟨cR_fr w2 hm.1, w3, cru_fr w2 (fun _ => rfl) (fun _ => rfl) (fun _ => rfl) (fun _ => rfl) hm.2.2.1, hm.2.2.2⟩
      obtain ⟨o', υ, y1, y2, y3⟩ := c_next hmρ hc99
      have hmυ := mkt_MK y3 hmρ
      obtain ⟨r, σ', x1, x2, x3⟩ := ih (j + 1) (by omega) _ υ o' hmυ y2
      refine ⟨r, σ', ?_, fr_tr (fr_mono w2 SC_231) (fr_tr (fr_mono y3 SC_MK) x2), fun τ hmτ => ?_⟩
      · unfold f_12047_62 at x1 ⊢
        refine (lp_next ?_).trans x1
        dsimp only
        unfold F_12047_62 f_12047_88 f_12047_112
        simp only [a1, z, la_100, la_110, la_230, rc_100_11 hm.1, rc_230_0 hm.1, gd_tt, oA_arr, px_obj_s, Option.bind_some, Option.map_some, Option.bind_none, eq_self, true_or, or_true, px_av_0, px_av_1, px_av_2, px_av_10, px_av_11, bn, wi_1, wi_2, wl_1, wl_21, wl_22, wr_1, wr_21, wr_22, Sum.elim_inl, Sum.elim_inr, ↓reduceIte, Nat.reduceLT, Nat.reduceLeDiff, not_false_eq_true, not_true_eq_false, Nat.reduceEqDiff, Nat.reduceAdd, reduceCtorEq, and_true, true_and, and_false, false_and, false_or, or_false, el, w1, rc_100_0 hmρ.1, rc_100_11 hmρ.1, rc_110_1 hmρ.1, rc_100_10 hmρ.1, y1, nI_add]
      · obtain ⟨o1, ω, u1, u2, u3, u4⟩ := e_changes hmτ hru hc99 (Or.inr rfl)
        have := nxt_uniq ho u2
        subst this
        rw [if_pos rfl] at u4
        simp only [Option.isSome_some, mb_t1] at u1
        obtain ⟨χ, t1, t2, t3⟩ := x3 ω u4
        refine ⟨χ, ?_, fr_tr u3 t2, fun k hk => by rw [t3 k hk, u3.1 18 k rfl]⟩
        unfold f_125_45 at t1 ⊢
        refine (lp_next (a' := (nI (j + 1), ω)) ?_).trans t1
        dsimp only
        unfold F_125_45
        simp only [a1, la_0, gd_tt, oA_arr, px_obj_s, Option.bind_some, Option.map_some, Option.bind_none, eq_self, true_or, or_true, px_av_0, px_av_1, px_av_2, px_av_10, px_av_11, bn, wi_1, wi_2, wl_1, wl_21, wl_22, wr_1, wr_21, wr_22, Sum.elim_inl, Sum.elim_inr, ↓reduceIte, Nat.reduceLT, Nat.reduceLeDiff, not_false_eq_true, not_true_eq_false, Nat.reduceEqDiff, Nat.reduceAdd, reduceCtorEq, and_true, true_and, and_false, false_and, false_or, or_false, u1, n10, nI_add]
theorem a_changing (hc : clr σ n B nr S C) (x y : Int32) : agR σ (f_12047 tT σ 100 x y) (fun τ => f_125 tT τ 0 x y) n B nr S C := by
  have hR := hc.1.1
  rcases rg_cases y 0 2 (by omega) with ⟨w, -, hw2, rfl⟩ | hny
  · have b1 : ¬ nI w < nI 0 := by rw [nI_ltI (by omega) (by omega)]; omega
    have b2 : nI w ≤ nI 2 := by rw [nI_leI (by omega) (by omega)]; omega
    have wy : ∀ ω, f_2 tT ω (nI w).toInt64 (lN 0) (lN 2) = some (nI 1) := fun ω => by
      rw [e_withinN ω (nI w) (lo := 0) (hi := 2) (by omega) (by omega), decide_eq_true (by rw [nI_toInt (by omega)]; omega), mb_t1]
    rcases c_isCost' σ x with ⟨c, hc99, rfl, h1⟩ | ⟨hno, h1⟩
    · obtain ⟨ρ, q1, q2, q3, q4⟩ := c_visit hc
      obtain ⟨o, υ, p1, p2, p3⟩ := c_next q3 hc99
      have hRρ := q4.1.1
      have hmυ := mkt_MK p3 q3
      obtain ⟨r, σ', x1, x2, x3⟩ := chg_joint hc.2.2 hc99 hw2 60 0 (by omega) B υ o hmυ p2
      refine ⟨r, σ', ?_, fr_tr q2 (fr_tr (fr_mono p3 SC_MK) x2), fun τ hm => ?_⟩
      · simp only [f_12047, f_12047_36, f_12047_59, b1, b2, h1, n10, la_100, la_110, la_230, rc_100_0 hR, rc_100_11 hR, rc_110_0 hR, gd_tt, oA_arr, px_obj_s, Option.bind_some, Option.map_some, Option.bind_none, eq_self, true_or, or_true, px_av_0, px_av_1, px_av_2, px_av_10, px_av_11, bn, wi_1, wi_2, wl_1, wl_21, wl_22, wr_1, wr_21, wr_22, Sum.elim_inl, Sum.elim_inr, ↓reduceIte, Nat.reduceLT, Nat.reduceLeDiff, not_false_eq_true, not_true_eq_false, Nat.reduceEqDiff, Nat.reduceAdd, reduceCtorEq, and_true, true_and, and_false, false_and, false_or, or_false, q1, rc_100_0 hRρ, rc_100_11 hRρ, rc_110_1 hRρ, rc_100_10 hRρ, p1, x1]
      · have hmt := mor_thr hm
        have hfk : fk SM τ (px_wi τ 0 0 (nI 0)) := fk_thr
        show ∃ υ, f_125 tT τ 0 (nI c) (nI w) = _ ∧ _
        unfold f_125
        have wx : ∀ ω, f_2 tT ω (nI c).toInt64 (lN 0) (lN 99) = some (nI 1) := fun ω => by
          rw [e_withinN ω (nI c) (lo := 0) (hi := 99) (by omega) (by omega), decide_eq_true (by rw [nI_toInt (by omega)]; omega), mb_t1]
        generalize px_wi τ 0 0 (nI 0) = ω at hmt hfk ⊢
        obtain ⟨ω1, e1, e2, e3⟩ := e_keeps hmt.1.1 la_18 (by decide)
        have m1 : mor ω1 n B nr S C := ⟨mo_on (by decide) e2 hmt.1, mru_fr e2 (fun _ _ => rfl) hmt.2⟩
        obtain ⟨χ, t1, t2, t3⟩ := x3 ω1 m1
        refine ⟨χ, ?_, fk_tr hfk (fk_back (Q := SM) (ρ := χ) (fr_tr (fr_mono e2 (fun l j q => ?_)) (fr_mono t2 (fun l j q => ?_))) SM_1 (fr_rf _ _) (fun k hk => by rw [t3 k hk, e3 k hk]))⟩
        · simp only [f_125_35, la_0, gd_tt, oA_arr, px_obj_s, Option.bind_some, Option.map_some, Option.bind_none, eq_self, true_or, or_true, px_av_0, px_av_1, px_av_2, px_av_10, px_av_11, bn, wi_1, wi_2, wl_1, wl_21, wl_22, wr_1, wr_21, wr_22, Sum.elim_inl, Sum.elim_inr, ↓reduceIte, Nat.reduceLT, Nat.reduceLeDiff, not_false_eq_true, not_true_eq_false, Nat.reduceEqDiff, Nat.reduceAdd, reduceCtorEq, and_true, true_and, and_false, false_and, false_or, or_false, wx, wy, n10, rm_0_18 hmt.1.1, e1, t1]
        · simp only [Bool.or_eq_false_iff] at q
          simp only [on, beq_eq_false_iff_ne]
          rintro rfl
          have := q.1
          simp [SM] at this
        · simp only [Bool.or_eq_false_iff] at q
          simp only [RQt, Bool.or_eq_false_iff]
          exact ⟨SM_RQ l j q.1, q.2⟩
    · refine ⟨-3, σ, ?_, fr_rf _ _, fun τ hm => ⟨_, ?_, fk_thr⟩⟩
      · simp only [f_12047, b1, b2, h1, gd_tt, oA_arr, px_obj_s, Option.bind_some, Option.map_some, Option.bind_none, eq_self, true_or, or_true, px_av_0, px_av_1, px_av_2, px_av_10, px_av_11, bn, wi_1, wi_2, wl_1, wl_21, wl_22, wr_1, wr_21, wr_22, Sum.elim_inl, Sum.elim_inr, ↓reduceIte, Nat.reduceLT, Nat.reduceLeDiff, not_false_eq_true, not_true_eq_false, Nat.reduceEqDiff, Nat.reduceAdd, reduceCtorEq, and_true, true_and, and_false, false_and, false_or, or_false]
      · have w0 := e_withinN (px_wi τ 0 0 (nI 0)) x (lo := 0) (hi := 99) (by omega) (by omega)
        rw [decide_eq_false hno, mb_f0] at w0
        simp only [f_125, f_125_32, la_0, gd_tt, oA_arr, px_obj_s, Option.bind_some, Option.map_some, Option.bind_none, eq_self, true_or, or_true, px_av_0, px_av_1, px_av_2, px_av_10, px_av_11, bn, wi_1, wi_2, wl_1, wl_21, wl_22, wr_1, wr_21, wr_22, Sum.elim_inl, Sum.elim_inr, ↓reduceIte, Nat.reduceLT, Nat.reduceLeDiff, not_false_eq_true, not_true_eq_false, Nat.reduceEqDiff, Nat.reduceAdd, reduceCtorEq, and_true, true_and, and_false, false_and, false_or, or_false, wy, n10, w0]
  · refine ⟨-2, σ, ?_, fr_rf _ _, fun τ hm => ⟨_, ?_, fk_thr⟩⟩
    · unfold f_12047
      exact rg_no (by omega) (by omega) hny
    · have w0 := e_withinN (px_wi τ 0 0 (nI 0)) y (lo := 0) (hi := 2) (by omega) (by omega)
      rw [decide_eq_false hny, mb_f0] at w0
      simp only [f_125, la_0, gd_tt, oA_arr, px_obj_s, Option.bind_some, Option.map_some, Option.bind_none, eq_self, true_or, or_true, px_av_0, px_av_1, px_av_2, px_av_10, px_av_11, bn, wi_1, wi_2, wl_1, wl_21, wl_22, wr_1, wr_21, wr_22, Sum.elim_inl, Sum.elim_inr, ↓reduceIte, Nat.reduceLT, Nat.reduceLeDiff, not_false_eq_true, not_true_eq_false, Nat.reduceEqDiff, Nat.reduceAdd, reduceCtorEq, and_true, true_and, and_false, false_and, false_or, or_false, w0]
/-! dearness -/
/-- the highest lure and the least loss among some pairs -/
def dzP (n : Nat) (B : Nat → Nat) (nr : Nat) (S C : Nat → Nat) (P : Nat → Nat → Prop) (hl ll : Int) : Prop := (-1 ≤ hl ∧ hl ≤ 155 ∧ -155 ≤ ll ∧ ll ≤ 99) ∧ (∀ a b, P a b → (B a).testBit b = false → rj n B nr S C a b = 0 → lur n B a b ≤ hl) ∧ (hl = -1 ∨ ∃ a b, P a b ∧ (B a).testBit b = false ∧ rj n B nr S C a b = 0 ∧ lur n B a b = hl) ∧ (∀ a b, P a b → (B a).testBit b = true → ll ≤ lss n B a b) ∧ (ll = 99 ∨ ∃ a b, P a b ∧ (B a).testBit b = true ∧ lss n B a b = ll)
def prs (n a x : Nat) (a' b : Nat) : Prop := (a' < a ∧ a' < b ∧ b < n) ∨ (a' = a ∧ a < b ∧ b < x)
theorem dzP_congr {P Q : Nat → Nat → Prop} {hl ll : Int} (h : ∀ a b, P a b ↔ Q a b) (hp : dzP n B nr S C P hl ll) : dzP n B nr S C Q hl ll := by
  obtain ⟨h1, h2, h3, h4, h5⟩ := hp
  refine ⟨h1, fun a b q => h2 a b ((h a b).mpr q), ?_, fun a b q => h4 a b ((h a b).mpr q), ?_⟩
  · exact h3.imp id (fun ⟨a, b, q, z⟩ => ⟨a, b, (h a b).mp q, z⟩)
  · exact h5.imp id (fun ⟨a, b, q, z⟩ => ⟨a, b, (h a b).mp q, z⟩)
/-- one pair more -/
theorem dzP_add {P : Nat → Nat → Prop} {hl ll : Int} {a b : Nat} (hp : dzP n B nr S C P hl ll) : dzP n B nr S C (fun a' b' => P a' b' ∨ (a' = a ∧ b' = b)) (if (B a).testBit b = false ∧ rj n B nr S C a b = 0 ∧ hl < lur n B a b then lur n B a b else hl) (if (B a).testBit b = true ∧ lss n B a b < ll then lss n B a b else ll) := by
  obtain ⟨h1, h2, h3, h4, h5⟩ := hp
  have b1 := lur_b (n := n) (B := B) a b
  have b2 := lss_b (n := n) (B := B) a b
  refine ⟨?_, fun a' b' q z1 z2 => ?_, ?_, fun a' b' q z1 => ?_, ?_⟩
  · constructor
    · split <;> omega
    · constructor
      · split <;> omega
      · constructor
        · split <;> omega
        · split <;> omega
  · rcases q with q | ⟨rfl, rfl⟩
    · have := h2 a' b' q z1 z2
      split
      · next w => omega
      · exact this
    · by_cases w : hl < lur n B a' b'
      · rw [if_pos ⟨z1, z2, w⟩]; omega
      · rw [if_neg (fun u => w u.2.2)]; omega
  · by_cases w : (B a).testBit b = false ∧ rj n B nr S C a b = 0 ∧ hl < lur n B a b
    · rw [if_pos w]; exact Or.inr ⟨a, b, Or.inr ⟨rfl, rfl⟩, w.1, w.2.1, rfl⟩
    · rw [if_neg w]
      exact h3.imp id (fun ⟨a', b', q, z⟩ => ⟨a', b', Or.inl q, z⟩)
  · rcases q with q | ⟨rfl, rfl⟩
    · have := h4 a' b' q z1
      split
      · next w => omega
      · exact this
    · by_cases w : lss n B a' b' < ll
      · rw [if_pos ⟨z1, w⟩]; omega
      · rw [if_neg (fun u => w u.2)]; omega
  · by_cases w : (B a).testBit b = true ∧ lss n B a b < ll
    · rw [if_pos w]; exact Or.inr ⟨a, b, Or.inr ⟨rfl, rfl⟩, w.1, rfl⟩
    · rw [if_neg w]
      exact h5.imp id (fun ⟨a', b', q, z⟩ => ⟨a', b', Or.inl q, z⟩)
theorem nxt_none {hl ll : Int} (hp : dzP n B nr S C (fun a b => a < b ∧ b < n) hl ll) {c : Nat} (hc99 : c ≤ 99) : nxt n B nr S C c none ↔ (hl < c ∧ (c : Int) ≤ ll) := by
  obtain ⟨h1, h2, h3, h4, h5⟩ := hp
  constructor
  · rintro (⟨p, h, -⟩ | ⟨k1, k2⟩)
    · cases h
    · constructor
      · rcases h3 with h3 | ⟨a, b, q, z1, z2, z3⟩
        · omega
        · have := k2 a b q.1 q.2
          unfold pJ at this
          rw [z1, decide_eq_true z2] at this
          simp only [Bool.not_false, Bool.true_and, decide_eq_false_iff_not] at this
          omega
      · rcases h5 with h5 | ⟨a, b, q, z1, z3⟩
        · omega
        · have := k1 a b q.1 q.2
          unfold pW at this
          rw [z1] at this
          simp only [Bool.true_and, decide_eq_false_iff_not] at this
          omega
  · rintro ⟨k1, k2⟩
    refine Or.inr ⟨fun a b q1 q2 => ?_, fun a b q1 q2 => ?_⟩
    · unfold pW
      cases hb : (B a).testBit b with
      | false => rfl
      | true =>
        have := h4 a b ⟨q1, q2⟩ hb
        rw [Bool.true_and, decide_eq_false_iff_not]; omega
    · unfold pJ
      cases hb : (B a).testBit b with
      | true => rfl
      | false =>
        by_cases z : rj n B nr S C a b = 0
        · have := h2 a b ⟨q1, q2⟩ hb z
          rw [decide_eq_true z]
          simp only [Bool.not_false, Bool.true_and, decide_eq_false_iff_not]
          omega
        · rw [decide_eq_false z]; rfl
theorem c_dear (hc : cnv σ 113 231 nr S C n B) : ∃ v υ hl ll, f_7005_18 tT 230 210 (-1) (nI 99) (nI 0) σ = some (v, υ) ∧ fr MK σ υ ∧ dzP n B nr S C (fun a b => a < b ∧ b < n) hl ll ∧ v.toInt = if ll ≤ hl then -1 else hl + 1 := by
  have hn := hc.1.2.2.2.2.2.2.2.2.2.1.1
  have m1 : (-1 : Int32).toInt = -1 := by decide
  have key : ∃ b, f_7005_18 tT 230 210 (-1) (nI 99) (nI 0) σ = some b ∧ ∃ hl ll, fr MK σ b.2 ∧ dzP n B nr S C (fun a b => a < b ∧ b < n) hl ll ∧ b.1.toInt = if ll ≤ hl then -1 else hl + 1 := by
    unfold f_7005_18
    refine lp_for (F := fun s : Int32 × Int32 × Int32 × px_M => F_7005_18 tT 230 210 s.1 s.2.1 s.2.2.1 s.2.2.2) (fun a q => ∃ ρ x3 x4 hl ll, q = (x3, x4, nI a, ρ) ∧ fr MK σ ρ ∧ cnv ρ 113 231 nr S C n B ∧ x3.toInt = hl ∧ x4.toInt = ll ∧ dzP n B nr S C (prs n a 0) hl ll) _ n (fun a q ha hI => ?_) (fun q hI => ?_) 0 (-1, nI 99, nI 0, σ) (by omega) ⟨σ, -1, nI 99, -1, 99, rfl, fr_rf _ _, hc, m1, by rw [nI_toInt (by decide)]; rfl, ⟨by decide, fun a b q => by unfold prs at q; omega, Or.inl rfl, fun a b q => by unfold prs at q; omega, Or.inl rfl⟩⟩
    · obtain ⟨ρ, x3, x4, hl, ll, rfl, g1, g2, g3, g4, g5⟩ := hI
      have inner : ∃ b, f_7005_36 tT 230 210 (nI a) x3 x4 (nI (a + 1)) ρ = some b ∧ ∃ υ y3 y4 hl ll, b = .inl (y3, y4, nI (a + 1), υ) ∧ fr MK σ υ ∧ cnv υ 113 231 nr S C n B ∧ y3.toInt = hl ∧ y4.toInt = ll ∧ dzP n B nr S C (prs n a n) hl ll := by
        unfold f_7005_36
        refine lp_for (F := fun s : Int32 × Int32 × Int32 × px_M => F_7005_36 tT 230 210 (nI a) s.1 s.2.1 s.2.2.1 s.2.2.2) (fun j q => ∃ ρ x3 x4 hl ll, q = (x3, x4, nI (a + 1 + j), ρ) ∧ fr MK σ ρ ∧ cnv ρ 113 231 nr S C n B ∧ x3.toInt = hl ∧ x4.toInt = ll ∧ dzP n B nr S C (prs n a (a + 1 + j)) hl ll) _ (n - 1 - a) (fun j q hj hI => ?_) (fun q hI => ?_) 0 (x3, x4, nI (a + 1), ρ) (by omega) ⟨ρ, x3, x4, hl, ll, rfl, g1, g2, g3, g4, dzP_congr (fun a' b => by unfold prs; omega) g5⟩
        · obtain ⟨ρ, x3, x4, hl, ll, rfl, g1, g2, g3, g4, g5⟩ := hI
          obtain ⟨c1, -, -, -, -, c7, c8⟩ := id g2.1
          have a1 : ¬ nI n ≤ nI (a + 1 + j) := by rw [nI_leI (by omega) (by omega)]; omega
          have lk := c_linked c8 (a := a) (b := a + 1 + j) ha (by omega)
          have hab : a ≠ a + 1 + j := by omega
          have hjj : a + 1 + (j + 1) = a + 1 + j + 1 := by omega
          have nx := dzP_congr (Q := prs n a (a + 1 + j + 1)) (fun a' b => by unfold prs; omega) (dzP_add (a := a) (b := a + 1 + j) g5)
          rw [hjj]
          cases hb : (B a).testBit (a + 1 + j) with
          | true =>
            rw [hb, mb_t1] at lk
            obtain ⟨v, ρ2, w1, w2, w3⟩ := c_loss c1 c8 ha (show a + 1 + j < n by omega) hab
            rw [if_neg (fun z => by rw [hb] at z; cases z.1)] at nx
            refine ⟨(x3, if v < x4 then v else x4, nI (a + 1 + j + 1), ρ2), ?_, ρ2, x3, _, hl, _, rfl, fr_tr g1 (MK_tw w3), cnv_tw w3 g2, g3, ?_, nx⟩
            · dsimp only
              unfold F_7005_36 f_7005_62 f_7005_112
              simp only [la_230, la_231, rc_230_0 c1, c8.2.2.2.2.1, gd_tt, oA_arr, px_obj_s, Option.bind_some, Option.map_some, Option.bind_none, eq_self, true_or, or_true, px_av_0, px_av_1, px_av_2, px_av_10, px_av_11, bn, wi_1, wi_2, wl_1, wl_21, wl_22, wr_1, wr_21, wr_22, Sum.elim_inl, Sum.elim_inr, ↓reduceIte, Nat.reduceLT, Nat.reduceLeDiff, not_false_eq_true, not_true_eq_false, Nat.reduceEqDiff, Nat.reduceAdd, reduceCtorEq, and_true, true_and, and_false, false_and, false_or, or_false, a1, lk, n10, w1, nI_add]
            · by_cases z : v < x4
              · rw [if_pos z, if_pos ⟨hb, by rw [fa_lt, w2, g4] at z; exact z⟩]; exact w2
              · rw [if_neg z, if_neg (fun u => z (by rw [fa_lt, w2, g4]; exact u.2))]; exact g4
          | false =>
            rw [hb, mb_f0] at lk
            obtain ⟨v, ρ2, w1, w2, w3⟩ := c_lure c1 c8 ha (show a + 1 + j < n by omega) hab
            have g2' := cnv_tw w3 g2
            rw [if_neg (c := (B a).testBit (a + 1 + j) = true ∧ lss n B a (a + 1 + j) < ll) (fun z => by rw [hb] at z; cases z.1)] at nx
            by_cases hle : v ≤ x3
            · rw [if_neg (fun z => by rw [fa_le, w2, g3] at hle; omega)] at nx
              refine ⟨(x3, x4, nI (a + 1 + j + 1), ρ2), ?_, ρ2, x3, x4, hl, ll, rfl, fr_tr g1 (MK_tw w3), g2', g3, g4, nx⟩
              dsimp only
              unfold F_7005_36 f_7005_80 f_7005_112
              simp only [la_230, la_231, rc_230_0 c1, c8.2.2.2.2.1, gd_tt, oA_arr, px_obj_s, Option.bind_some, Option.map_some, Option.bind_none, eq_self, true_or, or_true, px_av_0, px_av_1, px_av_2, px_av_10, px_av_11, bn, wi_1, wi_2, wl_1, wl_21, wl_22, wr_1, wr_21, wr_22, Sum.elim_inl, Sum.elim_inr, ↓reduceIte, Nat.reduceLT, Nat.reduceLeDiff, not_false_eq_true, not_true_eq_false, Nat.reduceEqDiff, Nat.reduceAdd, reduceCtorEq, and_true, true_and, and_false, false_and, false_or, or_false, a1, lk, w1, hle, nI_add]
            · have hgt : hl < lur n B a (a + 1 + j) := by rw [fa_le, w2, g3] at hle; omega
              obtain ⟨ρ3, y1, y2, y3⟩ := c_rj g2' ha (show a + 1 + j < n by omega) hab
              have hle2 := rj_le (n := n) (B := B) (nr := nr) (S := S) (C := C) (a := a) (b := a + 1 + j)
              by_cases h0 : rj n B nr S C a (a + 1 + j) = 0
              · rw [h0] at y1
                obtain ⟨v2, ρ4, u1, u2, u3⟩ := c_lure y3.1.1 y3.1.2.2.2.2.2.2 ha (show a + 1 + j < n by omega) hab
                rw [if_pos ⟨hb, h0, hgt⟩] at nx
                refine ⟨(v2, x4, nI (a + 1 + j + 1), ρ4), ?_, ρ4, v2, x4, _, ll, rfl, fr_tr g1 (fr_tr (MK_tw w3) (fr_tr (MK_CS y2) (MK_tw u3))), cnv_tw u3 y3, u2, g4, nx⟩
                dsimp only
                unfold F_7005_36 f_7005_80 f_7005_103 f_7005_112
                simp only [la_230, la_231, la_210, rc_230_0 c1, c8.2.2.2.2.1, gd_tt, oA_arr, px_obj_s, Option.bind_some, Option.map_some, Option.bind_none, eq_self, true_or, or_true, px_av_0, px_av_1, px_av_2, px_av_10, px_av_11, bn, wi_1, wi_2, wl_1, wl_21, wl_22, wr_1, wr_21, wr_22, Sum.elim_inl, Sum.elim_inr, ↓reduceIte, Nat.reduceLT, Nat.reduceLeDiff, not_false_eq_true, not_true_eq_false, Nat.reduceEqDiff, Nat.reduceAdd, reduceCtorEq, and_true, true_and, and_false, false_and, false_or, or_false, a1, lk, w1, hle, y1, u1, nI_add]
              · have z : ¬ nI (rj n B nr S C a (a + 1 + j)) = nI 0 := by rw [nI_eq (by omega) (by omega)]; exact h0
                rw [if_neg (fun z => h0 z.2.1)] at nx
                refine ⟨(x3, x4, nI (a + 1 + j + 1), ρ3), ?_, ρ3, x3, x4, hl, ll, rfl, fr_tr g1 (fr_tr (MK_tw w3) (MK_CS y2)), y3, g3, g4, nx⟩
                dsimp only
                unfold F_7005_36 f_7005_80 f_7005_112
                simp only [la_230, la_231, la_210, rc_230_0 c1, c8.2.2.2.2.1, gd_tt, oA_arr, px_obj_s, Option.bind_some, Option.map_some, Option.bind_none, eq_self, true_or, or_true, px_av_0, px_av_1, px_av_2, px_av_10, px_av_11, bn, wi_1, wi_2, wl_1, wl_21, wl_22, wr_1, wr_21, wr_22, Sum.elim_inl, Sum.elim_inr, ↓reduceIte, Nat.reduceLT, Nat.reduceLeDiff, not_false_eq_true, not_true_eq_false, Nat.reduceEqDiff, Nat.reduceAdd, reduceCtorEq, and_true, true_and, and_false, false_and, false_or, or_false, a1, lk, w1, hle, y1, z, nI_add]
        · obtain ⟨ρ, x3, x4, hl, ll, rfl, g1, g2, g3, g4, g5⟩ := hI
          obtain ⟨c1, -, -, -, -, c7, c8⟩ := id g2.1
          have a1 : nI n ≤ nI (a + 1 + (n - 1 - a)) := by rw [nI_leI (by omega) (by omega)]; omega
          refine ⟨.inl (x3, x4, nI (a + 1), ρ), ?_, ρ, x3, x4, hl, ll, rfl, g1, g2, g3, g4, dzP_congr (fun a' b => by unfold prs; omega) g5⟩
          dsimp only
          unfold F_7005_36
          simp only [la_230, la_231, rc_230_0 c1, c8.2.2.2.2.1, gd_tt, oA_arr, px_obj_s, Option.bind_some, Option.map_some, Option.bind_none, eq_self, true_or, or_true, px_av_0, px_av_1, px_av_2, px_av_10, px_av_11, bn, wi_1, wi_2, wl_1, wl_21, wl_22, wr_1, wr_21, wr_22, Sum.elim_inl, Sum.elim_inr, ↓reduceIte, Nat.reduceLT, Nat.reduceLeDiff, not_false_eq_true, not_true_eq_false, Nat.reduceEqDiff, Nat.reduceAdd, reduceCtorEq, and_true, true_and, and_false, false_and, false_or, or_false, a1, nI_add]
      obtain ⟨b, q1, υ, y3, y4, hl', ll', rfl, q2, q3, q4, q5, q6⟩ := inner
      obtain ⟨c1, -, -, -, -, c7, c8⟩ := id g2.1
      have a1 : ¬ nI n ≤ nI a := by rw [nI_leI (by omega) (by omega)]; omega
      refine ⟨(y3, y4, nI (a + 1), υ), ?_, υ, y3, y4, hl', ll', rfl, q2, q3, q4, q5, dzP_congr (fun a' b => by unfold prs; omega) q6⟩
      dsimp only
      unfold F_7005_18
      simp only [la_230, la_231, rc_230_0 c1, c8.2.2.2.2.1, gd_tt, oA_arr, px_obj_s, Option.bind_some, Option.map_some, Option.bind_none, eq_self, true_or, or_true, px_av_0, px_av_1, px_av_2, px_av_10, px_av_11, bn, wi_1, wi_2, wl_1, wl_21, wl_22, wr_1, wr_21, wr_22, Sum.elim_inl, Sum.elim_inr, ↓reduceIte, Nat.reduceLT, Nat.reduceLeDiff, not_false_eq_true, not_true_eq_false, Nat.reduceEqDiff, Nat.reduceAdd, reduceCtorEq, and_true, true_and, and_false, false_and, false_or, or_false, a1, nI_add, q1]
    · obtain ⟨ρ, x3, x4, hl, ll, rfl, g1, g2, g3, g4, g5⟩ := hI
      obtain ⟨c1, -, -, -, -, c7, c8⟩ := id g2.1
      have a1 : nI n ≤ nI n := by rw [nI_leI (by omega) (by omega)]; omega
      have g5' := dzP_congr (Q := fun a b => a < b ∧ b < n) (fun a' b => by unfold prs; omega) g5
      by_cases h : x4 ≤ x3
      · refine ⟨(-1, ρ), ?_, hl, ll, g1, g5', ?_⟩
        · dsimp only
          unfold F_7005_18
          simp only [la_230, la_231, rc_230_0 c1, c8.2.2.2.2.1, gd_tt, oA_arr, px_obj_s, Option.bind_some, Option.map_some, Option.bind_none, eq_self, true_or, or_true, px_av_0, px_av_1, px_av_2, px_av_10, px_av_11, bn, wi_1, wi_2, wl_1, wl_21, wl_22, wr_1, wr_21, wr_22, Sum.elim_inl, Sum.elim_inr, ↓reduceIte, Nat.reduceLT, Nat.reduceLeDiff, not_false_eq_true, not_true_eq_false, Nat.reduceEqDiff, Nat.reduceAdd, reduceCtorEq, and_true, true_and, and_false, false_and, false_or, or_false, a1, h]
        · rw [if_pos (by rw [fa_le, g3, g4] at h; exact h)]; exact m1
      · refine ⟨(x3 + nI 1, ρ), ?_, hl, ll, g1, g5', ?_⟩
        · dsimp only
          unfold F_7005_18
          simp only [la_230, la_231, rc_230_0 c1, c8.2.2.2.2.1, gd_tt, oA_arr, px_obj_s, Option.bind_some, Option.map_some, Option.bind_none, eq_self, true_or, or_true, px_av_0, px_av_1, px_av_2, px_av_10, px_av_11, bn, wi_1, wi_2, wl_1, wl_21, wl_22, wr_1, wr_21, wr_22, Sum.elim_inl, Sum.elim_inr, ↓reduceIte, Nat.reduceLT, Nat.reduceLeDiff, not_false_eq_true, not_true_eq_false, Nat.reduceEqDiff, Nat.reduceAdd, reduceCtorEq, and_true, true_and, and_false, false_and, false_or, or_false, a1, h]
        · have hb := g5.1
          rw [if_neg (by rw [fa_le, g3, g4] at h; exact h)]
          show (x3 + nI 1).toInt = _
          rw [Int32.toInt_add, g3, nI_toInt (by decide), Int.bmod_eq_of_le (by omega) (by omega)]
          rfl
  obtain ⟨⟨v, υ⟩, q1, hl, ll, q2⟩ := key
  exact ⟨v, υ, hl, ll, q1, q2⟩
theorem a_dearness (hc : clr σ n B nr S C) : agR σ (f_12048 tT σ 100) (fun τ => f_126 tT τ 0) n B nr S C := by
  have hR := hc.1.1
  have hru := hc.2.2
  obtain ⟨ρ, q1, q2, q3, q4⟩ := c_visit hc
  obtain ⟨ρ2, p1, p2, p3⟩ := c_convM q3
  obtain ⟨v, υ, hl, ll, w1, w2, w3, w4⟩ := c_dear p3
  have hRρ := q4.1.1
  refine ⟨v, υ, ?_, fr_tr q2 (fr_tr (fr_CS p2) (fr_mono w2 SC_MK)), fun τ hm => ?_⟩
  · simp only [f_12048, f_7005, la_100, la_110, la_230, la_210, rc_100_0 hR, rc_100_11 hR, rc_110_0 hR, gd_tt, oA_arr, px_obj_s, Option.bind_some, Option.map_some, Option.bind_none, eq_self, true_or, or_true, px_av_0, px_av_1, px_av_2, px_av_10, px_av_11, bn, wi_1, wi_2, wl_1, wl_21, wl_22, wr_1, wr_21, wr_22, Sum.elim_inl, Sum.elim_inr, ↓reduceIte, Nat.reduceLT, Nat.reduceLeDiff, not_false_eq_true, not_true_eq_false, Nat.reduceEqDiff, Nat.reduceAdd, reduceCtorEq, and_true, true_and, and_false, false_and, false_or, or_false, q1, rc_100_0 hRρ, rc_100_11 hRρ, rc_110_1 hRρ, rc_100_10 hRρ, rc_230_0 hRρ, p1, w1]
  · have hb := w3.1
    have lm : ∀ τ, mor τ n B nr S C → ∃ b, f_126_7 tT 0 (nI 0) τ = some b ∧ fk RQ τ b.2 ∧ b.1 = v := by
      intro τ hm
      unfold f_126_7
      refine lp_rel (F := fun s : Int32 × px_M => F_126_7 tT 0 s.1 s.2) (fun c q => ∃ ρ, q = (nI c, ρ) ∧ fk RQ τ ρ ∧ ∀ c', c' < c → ¬ (hl < (c' : Int) ∧ (c' : Int) ≤ ll)) _ 100 (fun c q hc hI => ?_) 0 (nI 0, τ) (by omega) ⟨τ, rfl, fk_rf _ _, fun c' h => by omega⟩
      obtain ⟨ρ, rfl, g1, g2⟩ := hI
      by_cases h100 : c = 100
      · subst h100
        refine Or.inr ⟨(-1, ρ), ?_, g1, ?_⟩
        · dsimp only
          unfold F_126_7
          rw [if_pos (by decide)]
        · have hle : ll ≤ hl := by
            apply Classical.byContradiction
            intro q
            have := g2 (hl + 1).toNat (by omega)
            omega
          rw [if_pos hle] at w4
          apply Int32.toInt_inj.mp
          rw [w4]
          show (-1 : Int32).toInt = -1
          decide
      · have a1 : ¬ nI 100 ≤ nI c := by rw [nI_leI (by omega) (by omega)]; omega
        obtain ⟨o, ω, u1, u2, u3⟩ := e_chk (mor_fk g1 hm) hru (show c ≤ 99 by omega)
        have hnn := nxt_none w3 (show c ≤ 99 by omega)
        cases ho : o with
        | none =>
          subst ho
          simp only [Option.isSome_none, mb_f0] at u1
          have hcc := hnn.mp u2
          refine Or.inr ⟨(nI c, ω), ?_, fk_tr g1 u3, ?_⟩
          · dsimp only
            unfold F_126_7
            simp only [a1, la_0, gd_tt, oA_arr, px_obj_s, Option.bind_some, Option.map_some, Option.bind_none, eq_self, true_or, or_true, px_av_0, px_av_1, px_av_2, px_av_10, px_av_11, bn, wi_1, wi_2, wl_1, wl_21, wl_22, wr_1, wr_21, wr_22, Sum.elim_inl, Sum.elim_inr, ↓reduceIte, Nat.reduceLT, Nat.reduceLeDiff, not_false_eq_true, not_true_eq_false, Nat.reduceEqDiff, Nat.reduceAdd, reduceCtorEq, and_true, true_and, and_false, false_and, false_or, or_false, u1]
          · have hlt : ¬ ll ≤ hl := by omega
            rw [if_neg hlt] at w4
            have : (c : Int) = hl + 1 := by
              apply Classical.byContradiction
              intro q
              have := g2 (hl + 1).toNat (by omega)
              omega
            apply Int32.toInt_inj.mp
            rw [w4, nI_toInt (by omega)]
            exact this
        | some p =>
          subst ho
          simp only [Option.isSome_some, mb_t1] at u1
          refine Or.inl ⟨(nI (c + 1), ω), ?_, by omega, ω, rfl, fk_tr g1 u3, fun c' hc' => ?_⟩
          · dsimp only
            unfold F_126_7
            simp only [a1, la_0, gd_tt, oA_arr, px_obj_s, Option.bind_some, Option.map_some, Option.bind_none, eq_self, true_or, or_true, px_av_0, px_av_1, px_av_2, px_av_10, px_av_11, bn, wi_1, wi_2, wl_1, wl_21, wl_22, wr_1, wr_21, wr_22, Sum.elim_inl, Sum.elim_inr, ↓reduceIte, Nat.reduceLT, Nat.reduceLeDiff, not_false_eq_true, not_true_eq_false, Nat.reduceEqDiff, Nat.reduceAdd, reduceCtorEq, and_true, true_and, and_false, false_and, false_or, or_false, u1, n10, nI_add]
          · by_cases q : c' = c
            · subst q
              intro z
              have := nxt_uniq u2 (hnn.mpr z)
              cases this
            · exact g2 c' (by omega)
    obtain ⟨⟨v', ψ⟩, y1, y2, y3⟩ := lm _ (mor_thr hm)
    dsimp only at y2 y3
    subst y3
    refine ⟨ψ, ?_, fk_tr fk_thr (fk_mono y2 SM_RQ)⟩
    simp only [f_126, la_0, gd_tt, oA_arr, px_obj_s, Option.bind_some, Option.map_some, Option.bind_none, eq_self, true_or, or_true, px_av_0, px_av_1, px_av_2, px_av_10, px_av_11, bn, wi_1, wi_2, wl_1, wl_21, wl_22, wr_1, wr_21, wr_22, Sum.elim_inl, Sum.elim_inr, ↓reduceIte, Nat.reduceLT, Nat.reduceLeDiff, not_false_eq_true, not_true_eq_false, Nat.reduceEqDiff, Nat.reduceAdd, reduceCtorEq, and_true, true_and, and_false, false_and, false_or, or_false, y1]
end
