/-! shallow functions, printed by wip/whole/decomp.py -/
def Sg_9029 (g : px_M → Int32 → Option (Int32)) : px_S := fun av σ k => ai_0 av (fun x0 av => av = [] ∧ oW (g σ x0) (fun r => k (some (.inl r)) σ))
/-- NoThree$Reader.comparisonOf(I)I -/
noncomputable def f_9029 (tab : px_T) (σ : px_M) (x0 : Int32) : Option (Int32) := if x0 = nI 4060 then (some ((nI 2004))) else (if x0 = nI 4061 then (some ((nI 2003))) else (if x0 = nI 4062 then (some ((nI 2005))) else (some ((-1)))))
set_option maxHeartbeats 4000000 in
set_option maxRecDepth 100000 in
theorem mf_9029 {tab : px_T} (hn : px_nd tab) {h : Nat} (hh : 1 ≤ h) : px_Ok tab pn_i9029 h (Sg_9029 (f_9029 tab)) := by
  refine px_mth hn (by decide +kernel) (fun av σ k hS => ?_) (fun C hT hC av σ k hS => ?_)
  · obtain ⟨x0, av0, e0, h0⟩ := ai_0p hS
    obtain ⟨ez, hs⟩ := h0
    subst ez
    subst e0
    exact Nat.le_of_ble_eq_true rfl
  · obtain ⟨x0, av0, e0, h0⟩ := ai_0p hS
    obtain ⟨ez, hs⟩ := h0
    subst ez
    subst e0
    subst hT
    show px_W C k 0 [some (.inl x0)] [] σ
    refine px_runH (h - 1) ck_9029 [] [] 80 1 (some .int) rfl rfl hC px_nosp (by omega) px_nocut (fun G Jf hG hJf => ?_)
    unfold f_9029 at hs
    by_cases hc0 : x0 = nI 4060
    · replace hs := oW_t hs hc0
      simp (implicitDefEqProofs := false) only [↓hG, ↓hJf, ↓px_vc, ↓px_ex, ↓px_jp, ↓rq_gi_0, ↓rq_gi_S, ↓rq_gl_0, ↓rq_gl_S, ↓rq_gr_0, ↓rq_gr_S, ↓rq_s1_0, ↓rq_s1_1, ↓rq_s1_S, ↓rq_s2_0, ↓rq_s2_1, ↓rq_s2_S, ↓rq_nl_n, ↓rq_nl_i, ↓rq_nl_l, ↓rq_nl_r, ↓rq_i1_s, ↓rq_l1_s, ↓r1_s, ↓rq_q1_s, ↓rq_i2_s, ↓rq_l2_s, ↓rq_il_s, ↓rq_d0_s, ↓rq_d1_i, ↓rq_d1_r, ↓rq_d2_l, ↓rq_d2_ii, ↓rq_d2_ir, ↓px_pop, ↓px_sp, ↓px_rd, ↓px_rf, ↓pn_xf, ↓rq_pt_0, ↓rq_pt_1, ↓rq_pt_2, ↓rq_pt_3, ↓px_sw, ↓pn_SW, ↓px_ma, ↓reduceIte, Nat.reduceEqDiff, Nat.reduceAdd, Nat.reduceSub, ↓Option.toList_some, ↓Option.toList_none, ↓List.cons_append, ↓List.nil_append, ↓kI_s, ↓kJ_s, ↓kN_s, ↓kO_s, ↓kZ_s, ↓kE_s, ↓an_rfl, ↓bt1 n00, ↓bt2 n00, ↓bf1 n10, ↓bf2 n10, ↓an_sz0, ↓an_sz1, ↓an_sz2, ↓an_sz3, ↓an_sz4, ↓an_ri, ↓an_rb0, ↓an_rb1, ↓an_b0, ↓an_b1, true_and, ↓ai_0s, ↓al_0s, ↓av_0s, ↓aq_0s, ↓ai_1s, ↓al_1s, ↓av_1s, ↓aq_1s, ↓ai_2s, ↓al_2s, ↓av_2s, ↓aq_2s, ↓ai_3s, ↓al_3s, ↓av_3s, ↓aq_3s, ↓ai_4s, ↓al_4s, ↓av_4s, ↓aq_4s, ↓ai_5s, ↓al_5s, ↓av_5s, ↓aq_5s, ↓ai_6s, ↓al_6s, ↓av_6s, ↓aq_6s, ↓ai_7s, ↓al_7s, ↓av_7s, ↓aq_7s, ↓an_l1, ↓bk_9029, ↓bt1 hc0, ↓bt2 hc0]
      rw [oW_some] at hs
      exact hs
    · replace hs := oW_f hs hc0
      by_cases hc1 : x0 = nI 4061
      · replace hs := oW_t hs hc1
        simp (implicitDefEqProofs := false) only [↓hG, ↓hJf, ↓px_vc, ↓px_ex, ↓px_jp, ↓rq_gi_0, ↓rq_gi_S, ↓rq_gl_0, ↓rq_gl_S, ↓rq_gr_0, ↓rq_gr_S, ↓rq_s1_0, ↓rq_s1_1, ↓rq_s1_S, ↓rq_s2_0, ↓rq_s2_1, ↓rq_s2_S, ↓rq_nl_n, ↓rq_nl_i, ↓rq_nl_l, ↓rq_nl_r, ↓rq_i1_s, ↓rq_l1_s, ↓r1_s, ↓rq_q1_s, ↓rq_i2_s, ↓rq_l2_s, ↓rq_il_s, ↓rq_d0_s, ↓rq_d1_i, ↓rq_d1_r, ↓rq_d2_l, ↓rq_d2_ii, ↓rq_d2_ir, ↓px_pop, ↓px_sp, ↓px_rd, ↓px_rf, ↓pn_xf, ↓rq_pt_0, ↓rq_pt_1, ↓rq_pt_2, ↓rq_pt_3, ↓px_sw, ↓pn_SW, ↓px_ma, ↓reduceIte, Nat.reduceEqDiff, Nat.reduceAdd, Nat.reduceSub, ↓Option.toList_some, ↓Option.toList_none, ↓List.cons_append, ↓List.nil_append, ↓kI_s, ↓kJ_s, ↓kN_s, ↓kO_s, ↓kZ_s, ↓kE_s, ↓an_rfl, ↓bt1 n00, ↓bt2 n00, ↓bf1 n10, ↓bf2 n10, ↓an_sz0, ↓an_sz1, ↓an_sz2, ↓an_sz3, ↓an_sz4, ↓an_ri, ↓an_rb0, ↓an_rb1, ↓an_b0, ↓an_b1, true_and, ↓ai_0s, ↓al_0s, ↓av_0s, ↓aq_0s, ↓ai_1s, ↓al_1s, ↓av_1s, ↓aq_1s, ↓ai_2s, ↓al_2s, ↓av_2s, ↓aq_2s, ↓ai_3s, ↓al_3s, ↓av_3s, ↓aq_3s, ↓ai_4s, ↓al_4s, ↓av_4s, ↓aq_4s, ↓ai_5s, ↓al_5s, ↓av_5s, ↓aq_5s, ↓ai_6s, ↓al_6s, ↓av_6s, ↓aq_6s, ↓ai_7s, ↓al_7s, ↓av_7s, ↓aq_7s, ↓an_l1, ↓bk_9029, ↓bf1 hc0, ↓bf2 hc0, ↓bt1 hc1, ↓bt2 hc1]
        rw [oW_some] at hs
        exact hs
      · replace hs := oW_f hs hc1
        by_cases hc2 : x0 = nI 4062
        · replace hs := oW_t hs hc2
          simp (implicitDefEqProofs := false) only [↓hG, ↓hJf, ↓px_vc, ↓px_ex, ↓px_jp, ↓rq_gi_0, ↓rq_gi_S, ↓rq_gl_0, ↓rq_gl_S, ↓rq_gr_0, ↓rq_gr_S, ↓rq_s1_0, ↓rq_s1_1, ↓rq_s1_S, ↓rq_s2_0, ↓rq_s2_1, ↓rq_s2_S, ↓rq_nl_n, ↓rq_nl_i, ↓rq_nl_l, ↓rq_nl_r, ↓rq_i1_s, ↓rq_l1_s, ↓r1_s, ↓rq_q1_s, ↓rq_i2_s, ↓rq_l2_s, ↓rq_il_s, ↓rq_d0_s, ↓rq_d1_i, ↓rq_d1_r, ↓rq_d2_l, ↓rq_d2_ii, ↓rq_d2_ir, ↓px_pop, ↓px_sp, ↓px_rd, ↓px_rf, ↓pn_xf, ↓rq_pt_0, ↓rq_pt_1, ↓rq_pt_2, ↓rq_pt_3, ↓px_sw, ↓pn_SW, ↓px_ma, ↓reduceIte, Nat.reduceEqDiff, Nat.reduceAdd, Nat.reduceSub, ↓Option.toList_some, ↓Option.toList_none, ↓List.cons_append, ↓List.nil_append, ↓kI_s, ↓kJ_s, ↓kN_s, ↓kO_s, ↓kZ_s, ↓kE_s, ↓an_rfl, ↓bt1 n00, ↓bt2 n00, ↓bf1 n10, ↓bf2 n10, ↓an_sz0, ↓an_sz1, ↓an_sz2, ↓an_sz3, ↓an_sz4, ↓an_ri, ↓an_rb0, ↓an_rb1, ↓an_b0, ↓an_b1, true_and, ↓ai_0s, ↓al_0s, ↓av_0s, ↓aq_0s, ↓ai_1s, ↓al_1s, ↓av_1s, ↓aq_1s, ↓ai_2s, ↓al_2s, ↓av_2s, ↓aq_2s, ↓ai_3s, ↓al_3s, ↓av_3s, ↓aq_3s, ↓ai_4s, ↓al_4s, ↓av_4s, ↓aq_4s, ↓ai_5s, ↓al_5s, ↓av_5s, ↓aq_5s, ↓ai_6s, ↓al_6s, ↓av_6s, ↓aq_6s, ↓ai_7s, ↓al_7s, ↓av_7s, ↓aq_7s, ↓an_l1, ↓bk_9029, ↓bf1 hc0, ↓bf2 hc0, ↓bf1 hc1, ↓bf2 hc1, ↓bt1 hc2, ↓bt2 hc2]
          rw [oW_some] at hs
          exact hs
        · replace hs := oW_f hs hc2
          simp (implicitDefEqProofs := false) only [↓hG, ↓hJf, ↓px_vc, ↓px_ex, ↓px_jp, ↓rq_gi_0, ↓rq_gi_S, ↓rq_gl_0, ↓rq_gl_S, ↓rq_gr_0, ↓rq_gr_S, ↓rq_s1_0, ↓rq_s1_1, ↓rq_s1_S, ↓rq_s2_0, ↓rq_s2_1, ↓rq_s2_S, ↓rq_nl_n, ↓rq_nl_i, ↓rq_nl_l, ↓rq_nl_r, ↓rq_i1_s, ↓rq_l1_s, ↓r1_s, ↓rq_q1_s, ↓rq_i2_s, ↓rq_l2_s, ↓rq_il_s, ↓rq_d0_s, ↓rq_d1_i, ↓rq_d1_r, ↓rq_d2_l, ↓rq_d2_ii, ↓rq_d2_ir, ↓px_pop, ↓px_sp, ↓px_rd, ↓px_rf, ↓pn_xf, ↓rq_pt_0, ↓rq_pt_1, ↓rq_pt_2, ↓rq_pt_3, ↓px_sw, ↓pn_SW, ↓px_ma, ↓reduceIte, Nat.reduceEqDiff, Nat.reduceAdd, Nat.reduceSub, ↓Option.toList_some, ↓Option.toList_none, ↓List.cons_append, ↓List.nil_append, ↓kI_s, ↓kJ_s, ↓kN_s, ↓kO_s, ↓kZ_s, ↓kE_s, ↓an_rfl, ↓bt1 n00, ↓bt2 n00, ↓bf1 n10, ↓bf2 n10, ↓an_sz0, ↓an_sz1, ↓an_sz2, ↓an_sz3, ↓an_sz4, ↓an_ri, ↓an_rb0, ↓an_rb1, ↓an_b0, ↓an_b1, true_and, ↓ai_0s, ↓al_0s, ↓av_0s, ↓aq_0s, ↓ai_1s, ↓al_1s, ↓av_1s, ↓aq_1s, ↓ai_2s, ↓al_2s, ↓av_2s, ↓aq_2s, ↓ai_3s, ↓al_3s, ↓av_3s, ↓aq_3s, ↓ai_4s, ↓al_4s, ↓av_4s, ↓aq_4s, ↓ai_5s, ↓al_5s, ↓av_5s, ↓aq_5s, ↓ai_6s, ↓al_6s, ↓av_6s, ↓aq_6s, ↓ai_7s, ↓al_7s, ↓av_7s, ↓aq_7s, ↓an_l1, ↓bk_9029, ↓bf1 hc0, ↓bf2 hc0, ↓bf1 hc1, ↓bf2 hc1, ↓bf1 hc2, ↓bf2 hc2]
          rw [oW_some] at hs
          exact hs
def Sg_9017 (g : px_M → Nat → Option (Int32)) : px_S := fun av σ k => av_0 av (fun x0 av => av = [] ∧ oW (g σ x0) (fun r => k (some (.inl r)) σ))
/-- NoThree$Reader.isRuleWord()Z -/
noncomputable def f_9017 (tab : px_T) (σ : px_M) (x0 : Nat) : Option (Int32) := gd (px_obj (px_lay tab x0) 9) (if ((σ).1 x0 9) < (nI 1000) then (some ((nI 0))) else (if (nI 2000) ≤ ((σ).1 x0 9) then (some ((nI 0))) else (some ((nI 1)))))
set_option maxHeartbeats 4000000 in
set_option maxRecDepth 100000 in
theorem mf_9017 {tab : px_T} (hn : px_nd tab) {h : Nat} (hh : 1 ≤ h) : px_Ok tab pn_i9017 h (Sg_9017 (f_9017 tab)) := by
  refine px_mth hn (by decide +kernel) (fun av σ k hS => ?_) (fun C hT hC av σ k hS => ?_)
  · obtain ⟨x0, av0, e0, h0⟩ := av_0p hS
    obtain ⟨ez, hs⟩ := h0
    subst ez
    subst e0
    exact Nat.le_of_ble_eq_true rfl
  · obtain ⟨x0, av0, e0, h0⟩ := av_0p hS
    obtain ⟨ez, hs⟩ := h0
    subst ez
    subst e0
    subst hT
    show px_W C k 0 [some (.inr (.inr (some x0)))] [] σ
    refine px_runH (h - 1) ck_9017 [] [] 80 1 (some .boolean) rfl rfl hC px_nosp (by omega) px_nocut (fun G Jf hG hJf => ?_)
    unfold f_9017 at hs
    obtain ⟨hc0, hs⟩ := oW_gx hs
    by_cases hc1 : ((σ).1 x0 9) < (nI 1000)
    · replace hs := oW_t hs hc1
      simp (implicitDefEqProofs := false) only [↓hG, ↓hJf, ↓px_vc, ↓px_ex, ↓px_jp, ↓rq_gi_0, ↓rq_gi_S, ↓rq_gl_0, ↓rq_gl_S, ↓rq_gr_0, ↓rq_gr_S, ↓rq_s1_0, ↓rq_s1_1, ↓rq_s1_S, ↓rq_s2_0, ↓rq_s2_1, ↓rq_s2_S, ↓rq_nl_n, ↓rq_nl_i, ↓rq_nl_l, ↓rq_nl_r, ↓rq_i1_s, ↓rq_l1_s, ↓r1_s, ↓rq_q1_s, ↓rq_i2_s, ↓rq_l2_s, ↓rq_il_s, ↓rq_d0_s, ↓rq_d1_i, ↓rq_d1_r, ↓rq_d2_l, ↓rq_d2_ii, ↓rq_d2_ir, ↓px_pop, ↓px_sp, ↓px_rd, ↓px_rf, ↓pn_xf, ↓rq_pt_0, ↓rq_pt_1, ↓rq_pt_2, ↓rq_pt_3, ↓px_sw, ↓pn_SW, ↓px_ma, ↓reduceIte, Nat.reduceEqDiff, Nat.reduceAdd, Nat.reduceSub, ↓Option.toList_some, ↓Option.toList_none, ↓List.cons_append, ↓List.nil_append, ↓kI_s, ↓kJ_s, ↓kN_s, ↓kO_s, ↓kZ_s, ↓kE_s, ↓an_rfl, ↓bt1 n00, ↓bt2 n00, ↓bf1 n10, ↓bf2 n10, ↓an_sz0, ↓an_sz1, ↓an_sz2, ↓an_sz3, ↓an_sz4, ↓an_ri, ↓an_rb0, ↓an_rb1, ↓an_b0, ↓an_b1, true_and, ↓ai_0s, ↓al_0s, ↓av_0s, ↓aq_0s, ↓ai_1s, ↓al_1s, ↓av_1s, ↓aq_1s, ↓ai_2s, ↓al_2s, ↓av_2s, ↓aq_2s, ↓ai_3s, ↓al_3s, ↓av_3s, ↓aq_3s, ↓ai_4s, ↓al_4s, ↓av_4s, ↓aq_4s, ↓ai_5s, ↓al_5s, ↓av_5s, ↓aq_5s, ↓ai_6s, ↓al_6s, ↓av_6s, ↓aq_6s, ↓ai_7s, ↓al_7s, ↓av_7s, ↓aq_7s, ↓an_l1, ↓bk_9017, ↓an_t hc0, ↓an_rv hc0, ↓bt1 hc1, ↓bt2 hc1]
      rw [oW_some] at hs
      exact hs
    · replace hs := oW_f hs hc1
      by_cases hc2 : (nI 2000) ≤ ((σ).1 x0 9)
      · replace hs := oW_t hs hc2
        simp (implicitDefEqProofs := false) only [↓hG, ↓hJf, ↓px_vc, ↓px_ex, ↓px_jp, ↓rq_gi_0, ↓rq_gi_S, ↓rq_gl_0, ↓rq_gl_S, ↓rq_gr_0, ↓rq_gr_S, ↓rq_s1_0, ↓rq_s1_1, ↓rq_s1_S, ↓rq_s2_0, ↓rq_s2_1, ↓rq_s2_S, ↓rq_nl_n, ↓rq_nl_i, ↓rq_nl_l, ↓rq_nl_r, ↓rq_i1_s, ↓rq_l1_s, ↓r1_s, ↓rq_q1_s, ↓rq_i2_s, ↓rq_l2_s, ↓rq_il_s, ↓rq_d0_s, ↓rq_d1_i, ↓rq_d1_r, ↓rq_d2_l, ↓rq_d2_ii, ↓rq_d2_ir, ↓px_pop, ↓px_sp, ↓px_rd, ↓px_rf, ↓pn_xf, ↓rq_pt_0, ↓rq_pt_1, ↓rq_pt_2, ↓rq_pt_3, ↓px_sw, ↓pn_SW, ↓px_ma, ↓reduceIte, Nat.reduceEqDiff, Nat.reduceAdd, Nat.reduceSub, ↓Option.toList_some, ↓Option.toList_none, ↓List.cons_append, ↓List.nil_append, ↓kI_s, ↓kJ_s, ↓kN_s, ↓kO_s, ↓kZ_s, ↓kE_s, ↓an_rfl, ↓bt1 n00, ↓bt2 n00, ↓bf1 n10, ↓bf2 n10, ↓an_sz0, ↓an_sz1, ↓an_sz2, ↓an_sz3, ↓an_sz4, ↓an_ri, ↓an_rb0, ↓an_rb1, ↓an_b0, ↓an_b1, true_and, ↓ai_0s, ↓al_0s, ↓av_0s, ↓aq_0s, ↓ai_1s, ↓al_1s, ↓av_1s, ↓aq_1s, ↓ai_2s, ↓al_2s, ↓av_2s, ↓aq_2s, ↓ai_3s, ↓al_3s, ↓av_3s, ↓aq_3s, ↓ai_4s, ↓al_4s, ↓av_4s, ↓aq_4s, ↓ai_5s, ↓al_5s, ↓av_5s, ↓aq_5s, ↓ai_6s, ↓al_6s, ↓av_6s, ↓aq_6s, ↓ai_7s, ↓al_7s, ↓av_7s, ↓aq_7s, ↓an_l1, ↓bk_9017, ↓an_t hc0, ↓an_rv hc0, ↓bf1 hc1, ↓bf2 hc1, ↓bt1 hc2, ↓bt2 hc2]
        rw [oW_some] at hs
        exact hs
      · replace hs := oW_f hs hc2
        simp (implicitDefEqProofs := false) only [↓hG, ↓hJf, ↓px_vc, ↓px_ex, ↓px_jp, ↓rq_gi_0, ↓rq_gi_S, ↓rq_gl_0, ↓rq_gl_S, ↓rq_gr_0, ↓rq_gr_S, ↓rq_s1_0, ↓rq_s1_1, ↓rq_s1_S, ↓rq_s2_0, ↓rq_s2_1, ↓rq_s2_S, ↓rq_nl_n, ↓rq_nl_i, ↓rq_nl_l, ↓rq_nl_r, ↓rq_i1_s, ↓rq_l1_s, ↓r1_s, ↓rq_q1_s, ↓rq_i2_s, ↓rq_l2_s, ↓rq_il_s, ↓rq_d0_s, ↓rq_d1_i, ↓rq_d1_r, ↓rq_d2_l, ↓rq_d2_ii, ↓rq_d2_ir, ↓px_pop, ↓px_sp, ↓px_rd, ↓px_rf, ↓pn_xf, ↓rq_pt_0, ↓rq_pt_1, ↓rq_pt_2, ↓rq_pt_3, ↓px_sw, ↓pn_SW, ↓px_ma, ↓reduceIte, Nat.reduceEqDiff, Nat.reduceAdd, Nat.reduceSub, ↓Option.toList_some, ↓Option.toList_none, ↓List.cons_append, ↓List.nil_append, ↓kI_s, ↓kJ_s, ↓kN_s, ↓kO_s, ↓kZ_s, ↓kE_s, ↓an_rfl, ↓bt1 n00, ↓bt2 n00, ↓bf1 n10, ↓bf2 n10, ↓an_sz0, ↓an_sz1, ↓an_sz2, ↓an_sz3, ↓an_sz4, ↓an_ri, ↓an_rb0, ↓an_rb1, ↓an_b0, ↓an_b1, true_and, ↓ai_0s, ↓al_0s, ↓av_0s, ↓aq_0s, ↓ai_1s, ↓al_1s, ↓av_1s, ↓aq_1s, ↓ai_2s, ↓al_2s, ↓av_2s, ↓aq_2s, ↓ai_3s, ↓al_3s, ↓av_3s, ↓aq_3s, ↓ai_4s, ↓al_4s, ↓av_4s, ↓aq_4s, ↓ai_5s, ↓al_5s, ↓av_5s, ↓aq_5s, ↓ai_6s, ↓al_6s, ↓av_6s, ↓aq_6s, ↓ai_7s, ↓al_7s, ↓av_7s, ↓aq_7s, ↓an_l1, ↓bk_9017, ↓an_t hc0, ↓an_rv hc0, ↓bf1 hc1, ↓bf2 hc1, ↓bf1 hc2, ↓bf2 hc2]
        rw [oW_some] at hs
        exact hs
def Sg_10004 (g : px_M → Nat → Int32 → Option (px_M)) : px_S := fun av σ k => av_0 av (fun x0 av => ai_1 av (fun x1 av => av = [] ∧ oW (g σ x0 x1) (fun τ => k none τ)))
/-- NoThree$Rules.add(I)V -/
noncomputable def f_10004_54 (tab : px_T) (σ : px_M) (x0 : Nat) (x1 : Int32) : Option (px_M) := if x1 < (nI 1000) then (some (σ)) else (if (nI 2000) ≤ x1 then (some (σ)) else (gd (px_obj (px_lay tab x0) 10) ((((σ).2.2 x0 2)).bind fun n1 => oA (px_lay tab n1) fun t2 l3 => gd (t2 = 0 ∨ t2 = 11) (gd (vp_in ((σ).1 x0 0) l3) (gd (t2 = 0) (some ((px_wi σ n1 (((σ).1 x0 0)).toNatClampNeg ((px_av t2 σ n1 (((σ).1 x0 0)).toNatClampNeg) ||| ((nI 1) <<< ((x1 - (nI 1000)) &&& 31)))))))))))
noncomputable def f_10004 (tab : px_T) (σ : px_M) (x0 : Nat) (x1 : Int32) : Option (px_M) := gd (px_obj (px_lay tab x0) 10) (if ((σ).1 x0 4) < nI 0 then (some (σ)) else (if (nI 900) ≤ ((σ).1 x0 4) then (some (σ)) else (if ((σ).1 x0 0) < nI 0 then (some (σ)) else (if ((σ).1 x0 0) < (nI 6) then ((((σ).2.2 x0 3)).bind fun n1 => oA (px_lay tab n1) fun t2 l3 => gd (t2 = 0) (gd (vp_in ((σ).1 x0 4) l3) (f_10004_54 tab ((px_wi (px_wi σ n1 (((σ).1 x0 4)).toNatClampNeg x1) x0 4 ((((px_wi σ n1 (((σ).1 x0 4)).toNatClampNeg x1)).1 x0 4) + (nI 1)))) x0 x1))) else (some (σ))))))
def kp_10004_54 (Q : Nat → Int32 → px_M → Prop) : px_P := fun ls st τ => st = [] ∧ kN ls (fun x0 ls => kI ls (fun x1 ls => kE ls (Q x0 x1 τ)))
theorem kq_10004_54 {C : px_C} {k : Option px_V → px_M → Prop} {Q : Nat → Int32 → px_M → Prop} (H : ∀ (x0 : Nat) (x1 : Int32) (τ : px_M), Q x0 x1 τ → px_W C k 54 [some (.inr (.inr (some x0))), some (.inl x1)] [] τ) : ∀ ls st τ, kp_10004_54 Q ls st τ → px_W C k 54 ls st τ := by
  intro ls st τ hz
  obtain ⟨ez, h0⟩ := hz
  obtain ⟨x0, l0, e0, h1⟩ := kN_sp h0
  obtain ⟨x1, l1, e1, h2⟩ := kI_sp h1
  obtain ⟨ey, hy⟩ := kE_sp h2
  subst ez
  subst ey
  subst e1
  subst e0
  exact H x0 x1 τ hy
set_option maxHeartbeats 4000000 in
set_option maxRecDepth 100000 in
theorem rl_10004_54 {C : px_C} (hn : px_nd (px_tb C)) {h : Nat} (hh : 1 ≤ h) (hC : px_ok C pn_i10004 h) {k : Option px_V → px_M → Prop} {x0 : Nat} {x1 : Int32} {σ : px_M} (hs : oW (f_10004_54 (px_tb C) σ x0 x1) (fun τ => k none τ)) : px_W C k 54 [some (.inr (.inr (some x0))), some (.inl x1)] [] σ := by
  refine px_runH (h - 1) ck_10004 [] [] 80 2 none rfl rfl hC px_nosp (by omega) px_nocut (fun G Jf hG hJf => ?_)
  unfold f_10004_54 at hs
  by_cases hc0 : x1 < (nI 1000)
  · replace hs := oW_t hs hc0
    simp (implicitDefEqProofs := false) only [↓hG, ↓hJf, ↓px_vc, ↓px_ex, ↓px_jp, ↓rq_gi_0, ↓rq_gi_S, ↓rq_gl_0, ↓rq_gl_S, ↓rq_gr_0, ↓rq_gr_S, ↓rq_s1_0, ↓rq_s1_1, ↓rq_s1_S, ↓rq_s2_0, ↓rq_s2_1, ↓rq_s2_S, ↓rq_nl_n, ↓rq_nl_i, ↓rq_nl_l, ↓rq_nl_r, ↓rq_i1_s, ↓rq_l1_s, ↓r1_s, ↓rq_q1_s, ↓rq_i2_s, ↓rq_l2_s, ↓rq_il_s, ↓rq_d0_s, ↓rq_d1_i, ↓rq_d1_r, ↓rq_d2_l, ↓rq_d2_ii, ↓rq_d2_ir, ↓px_pop, ↓px_sp, ↓px_rd, ↓px_rf, ↓pn_xf, ↓rq_pt_0, ↓rq_pt_1, ↓rq_pt_2, ↓rq_pt_3, ↓px_sw, ↓pn_SW, ↓px_ma, ↓reduceIte, Nat.reduceEqDiff, Nat.reduceAdd, Nat.reduceSub, ↓Option.toList_some, ↓Option.toList_none, ↓List.cons_append, ↓List.nil_append, ↓kI_s, ↓kJ_s, ↓kN_s, ↓kO_s, ↓kZ_s, ↓kE_s, ↓an_rfl, ↓bt1 n00, ↓bt2 n00, ↓bf1 n10, ↓bf2 n10, ↓an_sz0, ↓an_sz1, ↓an_sz2, ↓an_sz3, ↓an_sz4, ↓an_ri, ↓an_rb0, ↓an_rb1, ↓an_b0, ↓an_b1, true_and, ↓ai_0s, ↓al_0s, ↓av_0s, ↓aq_0s, ↓ai_1s, ↓al_1s, ↓av_1s, ↓aq_1s, ↓ai_2s, ↓al_2s, ↓av_2s, ↓aq_2s, ↓ai_3s, ↓al_3s, ↓av_3s, ↓aq_3s, ↓ai_4s, ↓al_4s, ↓av_4s, ↓aq_4s, ↓ai_5s, ↓al_5s, ↓av_5s, ↓aq_5s, ↓ai_6s, ↓al_6s, ↓av_6s, ↓aq_6s, ↓ai_7s, ↓al_7s, ↓av_7s, ↓aq_7s, ↓an_l2, ↓bk_10004, ↓bt1 hc0, ↓bt2 hc0]
    rw [oW_some] at hs
    exact hs
  · replace hs := oW_f hs hc0
    by_cases hc1 : (nI 2000) ≤ x1
    · replace hs := oW_t hs hc1
      simp (implicitDefEqProofs := false) only [↓hG, ↓hJf, ↓px_vc, ↓px_ex, ↓px_jp, ↓rq_gi_0, ↓rq_gi_S, ↓rq_gl_0, ↓rq_gl_S, ↓rq_gr_0, ↓rq_gr_S, ↓rq_s1_0, ↓rq_s1_1, ↓rq_s1_S, ↓rq_s2_0, ↓rq_s2_1, ↓rq_s2_S, ↓rq_nl_n, ↓rq_nl_i, ↓rq_nl_l, ↓rq_nl_r, ↓rq_i1_s, ↓rq_l1_s, ↓r1_s, ↓rq_q1_s, ↓rq_i2_s, ↓rq_l2_s, ↓rq_il_s, ↓rq_d0_s, ↓rq_d1_i, ↓rq_d1_r, ↓rq_d2_l, ↓rq_d2_ii, ↓rq_d2_ir, ↓px_pop, ↓px_sp, ↓px_rd, ↓px_rf, ↓pn_xf, ↓rq_pt_0, ↓rq_pt_1, ↓rq_pt_2, ↓rq_pt_3, ↓px_sw, ↓pn_SW, ↓px_ma, ↓reduceIte, Nat.reduceEqDiff, Nat.reduceAdd, Nat.reduceSub, ↓Option.toList_some, ↓Option.toList_none, ↓List.cons_append, ↓List.nil_append, ↓kI_s, ↓kJ_s, ↓kN_s, ↓kO_s, ↓kZ_s, ↓kE_s, ↓an_rfl, ↓bt1 n00, ↓bt2 n00, ↓bf1 n10, ↓bf2 n10, ↓an_sz0, ↓an_sz1, ↓an_sz2, ↓an_sz3, ↓an_sz4, ↓an_ri, ↓an_rb0, ↓an_rb1, ↓an_b0, ↓an_b1, true_and, ↓ai_0s, ↓al_0s, ↓av_0s, ↓aq_0s, ↓ai_1s, ↓al_1s, ↓av_1s, ↓aq_1s, ↓ai_2s, ↓al_2s, ↓av_2s, ↓aq_2s, ↓ai_3s, ↓al_3s, ↓av_3s, ↓aq_3s, ↓ai_4s, ↓al_4s, ↓av_4s, ↓aq_4s, ↓ai_5s, ↓al_5s, ↓av_5s, ↓aq_5s, ↓ai_6s, ↓al_6s, ↓av_6s, ↓aq_6s, ↓ai_7s, ↓al_7s, ↓av_7s, ↓aq_7s, ↓an_l2, ↓bk_10004, ↓bf1 hc0, ↓bf2 hc0, ↓bt1 hc1, ↓bt2 hc1]
      rw [oW_some] at hs
      exact hs
    · replace hs := oW_f hs hc1
      obtain ⟨hc2, hs⟩ := oW_gx hs
      obtain ⟨n1, hc3, hs⟩ := oW_bx hs
      obtain ⟨t2, l3, hc4, hs⟩ := oW_ax hs
      obtain ⟨hc5, hs⟩ := oW_gx hs
      obtain ⟨hc6, hs⟩ := oW_gx hs
      obtain ⟨hc7, hs⟩ := oW_gx hs
      simp (implicitDefEqProofs := false) only [↓hG, ↓hJf, ↓px_vc, ↓px_ex, ↓px_jp, ↓rq_gi_0, ↓rq_gi_S, ↓rq_gl_0, ↓rq_gl_S, ↓rq_gr_0, ↓rq_gr_S, ↓rq_s1_0, ↓rq_s1_1, ↓rq_s1_S, ↓rq_s2_0, ↓rq_s2_1, ↓rq_s2_S, ↓rq_nl_n, ↓rq_nl_i, ↓rq_nl_l, ↓rq_nl_r, ↓rq_i1_s, ↓rq_l1_s, ↓r1_s, ↓rq_q1_s, ↓rq_i2_s, ↓rq_l2_s, ↓rq_il_s, ↓rq_d0_s, ↓rq_d1_i, ↓rq_d1_r, ↓rq_d2_l, ↓rq_d2_ii, ↓rq_d2_ir, ↓px_pop, ↓px_sp, ↓px_rd, ↓px_rf, ↓pn_xf, ↓rq_pt_0, ↓rq_pt_1, ↓rq_pt_2, ↓rq_pt_3, ↓px_sw, ↓pn_SW, ↓px_ma, ↓reduceIte, Nat.reduceEqDiff, Nat.reduceAdd, Nat.reduceSub, ↓Option.toList_some, ↓Option.toList_none, ↓List.cons_append, ↓List.nil_append, ↓kI_s, ↓kJ_s, ↓kN_s, ↓kO_s, ↓kZ_s, ↓kE_s, ↓an_rfl, ↓bt1 n00, ↓bt2 n00, ↓bf1 n10, ↓bf2 n10, ↓an_sz0, ↓an_sz1, ↓an_sz2, ↓an_sz3, ↓an_sz4, ↓an_ri, ↓an_rb0, ↓an_rb1, ↓an_b0, ↓an_b1, true_and, ↓ai_0s, ↓al_0s, ↓av_0s, ↓aq_0s, ↓ai_1s, ↓al_1s, ↓av_1s, ↓aq_1s, ↓ai_2s, ↓al_2s, ↓av_2s, ↓aq_2s, ↓ai_3s, ↓al_3s, ↓av_3s, ↓aq_3s, ↓ai_4s, ↓al_4s, ↓av_4s, ↓aq_4s, ↓ai_5s, ↓al_5s, ↓av_5s, ↓aq_5s, ↓ai_6s, ↓al_6s, ↓av_6s, ↓aq_6s, ↓ai_7s, ↓al_7s, ↓av_7s, ↓aq_7s, ↓an_l2, ↓bk_10004, ↓bf1 hc0, ↓bf2 hc0, ↓bf1 hc1, ↓bf2 hc1, ↓an_t hc2, ↓an_rv hc2, ↓r1_e hc3, ↓av_0e hc3, ↓av_1e hc3, ↓av_2e hc3, ↓av_3e hc3, ↓ar_e hc4, ↓an_t hc5, ↓an_t hc6, ↓an_t hc7]
      rw [oW_some] at hs
      exact hs
set_option maxHeartbeats 4000000 in
set_option maxRecDepth 100000 in
theorem mf_10004 {tab : px_T} (hn : px_nd tab) {h : Nat} (hh : 1 ≤ h) : px_Ok tab pn_i10004 h (Sg_10004 (f_10004 tab)) := by
  refine px_mth hn (by decide +kernel) (fun av σ k hS => ?_) (fun C hT hC av σ k hS => ?_)
  · obtain ⟨x0, av0, e0, h0⟩ := av_0p hS
    obtain ⟨x1, av1, e1, h1⟩ := ai_1p h0
    obtain ⟨ez, hs⟩ := h1
    subst ez
    subst e1
    subst e0
    exact Nat.le_of_ble_eq_true rfl
  · obtain ⟨x0, av0, e0, h0⟩ := av_0p hS
    obtain ⟨x1, av1, e1, h1⟩ := ai_1p h0
    obtain ⟨ez, hs⟩ := h1
    subst ez
    subst e1
    subst e0
    subst hT
    show px_W C k 0 [some (.inr (.inr (some x0))), some (.inl x1)] [] σ
    refine px_runH (h - 1) ck_10004 [] [(54, kp_10004_54 (fun y0 y1 τ => oW (f_10004_54 (px_tb C) τ y0 y1) (fun τ => k none τ)))] 80 2 none rfl rfl hC px_nosp (by omega) (px_cut1 (kq_10004_54 (fun y0 y1 τ hq => by exact rl_10004_54 hn (by omega) hC  hq)) px_nocut) (fun G Jf hG hJf => ?_)
    unfold f_10004 at hs
    obtain ⟨hc0, hs⟩ := oW_gx hs
    by_cases hc1 : ((σ).1 x0 4) < nI 0
    · replace hs := oW_t hs hc1
      simp (implicitDefEqProofs := false) only [↓hG, ↓hJf, ↓px_vc, ↓px_ex, ↓px_jp, ↓rq_gi_0, ↓rq_gi_S, ↓rq_gl_0, ↓rq_gl_S, ↓rq_gr_0, ↓rq_gr_S, ↓rq_s1_0, ↓rq_s1_1, ↓rq_s1_S, ↓rq_s2_0, ↓rq_s2_1, ↓rq_s2_S, ↓rq_nl_n, ↓rq_nl_i, ↓rq_nl_l, ↓rq_nl_r, ↓rq_i1_s, ↓rq_l1_s, ↓r1_s, ↓rq_q1_s, ↓rq_i2_s, ↓rq_l2_s, ↓rq_il_s, ↓rq_d0_s, ↓rq_d1_i, ↓rq_d1_r, ↓rq_d2_l, ↓rq_d2_ii, ↓rq_d2_ir, ↓px_pop, ↓px_sp, ↓px_rd, ↓px_rf, ↓pn_xf, ↓rq_pt_0, ↓rq_pt_1, ↓rq_pt_2, ↓rq_pt_3, ↓px_sw, ↓pn_SW, ↓px_ma, ↓reduceIte, Nat.reduceEqDiff, Nat.reduceAdd, Nat.reduceSub, ↓Option.toList_some, ↓Option.toList_none, ↓List.cons_append, ↓List.nil_append, ↓kI_s, ↓kJ_s, ↓kN_s, ↓kO_s, ↓kZ_s, ↓kE_s, ↓an_rfl, ↓bt1 n00, ↓bt2 n00, ↓bf1 n10, ↓bf2 n10, ↓an_sz0, ↓an_sz1, ↓an_sz2, ↓an_sz3, ↓an_sz4, ↓an_ri, ↓an_rb0, ↓an_rb1, ↓an_b0, ↓an_b1, true_and, ↓ai_0s, ↓al_0s, ↓av_0s, ↓aq_0s, ↓ai_1s, ↓al_1s, ↓av_1s, ↓aq_1s, ↓ai_2s, ↓al_2s, ↓av_2s, ↓aq_2s, ↓ai_3s, ↓al_3s, ↓av_3s, ↓aq_3s, ↓ai_4s, ↓al_4s, ↓av_4s, ↓aq_4s, ↓ai_5s, ↓al_5s, ↓av_5s, ↓aq_5s, ↓ai_6s, ↓al_6s, ↓av_6s, ↓aq_6s, ↓ai_7s, ↓al_7s, ↓av_7s, ↓aq_7s, ↓an_l2, ↓bk_10004, ↓kp_10004_54, ↓an_t hc0, ↓an_rv hc0, ↓bt1 hc1, ↓bt2 hc1]
      rw [oW_some] at hs
      exact hs
    · replace hs := oW_f hs hc1
      by_cases hc2 : (nI 900) ≤ ((σ).1 x0 4)
      · replace hs := oW_t hs hc2
        simp (implicitDefEqProofs := false) only [↓hG, ↓hJf, ↓px_vc, ↓px_ex, ↓px_jp, ↓rq_gi_0, ↓rq_gi_S, ↓rq_gl_0, ↓rq_gl_S, ↓rq_gr_0, ↓rq_gr_S, ↓rq_s1_0, ↓rq_s1_1, ↓rq_s1_S, ↓rq_s2_0, ↓rq_s2_1, ↓rq_s2_S, ↓rq_nl_n, ↓rq_nl_i, ↓rq_nl_l, ↓rq_nl_r, ↓rq_i1_s, ↓rq_l1_s, ↓r1_s, ↓rq_q1_s, ↓rq_i2_s, ↓rq_l2_s, ↓rq_il_s, ↓rq_d0_s, ↓rq_d1_i, ↓rq_d1_r, ↓rq_d2_l, ↓rq_d2_ii, ↓rq_d2_ir, ↓px_pop, ↓px_sp, ↓px_rd, ↓px_rf, ↓pn_xf, ↓rq_pt_0, ↓rq_pt_1, ↓rq_pt_2, ↓rq_pt_3, ↓px_sw, ↓pn_SW, ↓px_ma, ↓reduceIte, Nat.reduceEqDiff, Nat.reduceAdd, Nat.reduceSub, ↓Option.toList_some, ↓Option.toList_none, ↓List.cons_append, ↓List.nil_append, ↓kI_s, ↓kJ_s, ↓kN_s, ↓kO_s, ↓kZ_s, ↓kE_s, ↓an_rfl, ↓bt1 n00, ↓bt2 n00, ↓bf1 n10, ↓bf2 n10, ↓an_sz0, ↓an_sz1, ↓an_sz2, ↓an_sz3, ↓an_sz4, ↓an_ri, ↓an_rb0, ↓an_rb1, ↓an_b0, ↓an_b1, true_and, ↓ai_0s, ↓al_0s, ↓av_0s, ↓aq_0s, ↓ai_1s, ↓al_1s, ↓av_1s, ↓aq_1s, ↓ai_2s, ↓al_2s, ↓av_2s, ↓aq_2s, ↓ai_3s, ↓al_3s, ↓av_3s, ↓aq_3s, ↓ai_4s, ↓al_4s, ↓av_4s, ↓aq_4s, ↓ai_5s, ↓al_5s, ↓av_5s, ↓aq_5s, ↓ai_6s, ↓al_6s, ↓av_6s, ↓aq_6s, ↓ai_7s, ↓al_7s, ↓av_7s, ↓aq_7s, ↓an_l2, ↓bk_10004, ↓kp_10004_54, ↓an_t hc0, ↓an_rv hc0, ↓bf1 hc1, ↓bf2 hc1, ↓bt1 hc2, ↓bt2 hc2]
        rw [oW_some] at hs
        exact hs
      · replace hs := oW_f hs hc2
        by_cases hc3 : ((σ).1 x0 0) < nI 0
        · replace hs := oW_t hs hc3
          simp (implicitDefEqProofs := false) only [↓hG, ↓hJf, ↓px_vc, ↓px_ex, ↓px_jp, ↓rq_gi_0, ↓rq_gi_S, ↓rq_gl_0, ↓rq_gl_S, ↓rq_gr_0, ↓rq_gr_S, ↓rq_s1_0, ↓rq_s1_1, ↓rq_s1_S, ↓rq_s2_0, ↓rq_s2_1, ↓rq_s2_S, ↓rq_nl_n, ↓rq_nl_i, ↓rq_nl_l, ↓rq_nl_r, ↓rq_i1_s, ↓rq_l1_s, ↓r1_s, ↓rq_q1_s, ↓rq_i2_s, ↓rq_l2_s, ↓rq_il_s, ↓rq_d0_s, ↓rq_d1_i, ↓rq_d1_r, ↓rq_d2_l, ↓rq_d2_ii, ↓rq_d2_ir, ↓px_pop, ↓px_sp, ↓px_rd, ↓px_rf, ↓pn_xf, ↓rq_pt_0, ↓rq_pt_1, ↓rq_pt_2, ↓rq_pt_3, ↓px_sw, ↓pn_SW, ↓px_ma, ↓reduceIte, Nat.reduceEqDiff, Nat.reduceAdd, Nat.reduceSub, ↓Option.toList_some, ↓Option.toList_none, ↓List.cons_append, ↓List.nil_append, ↓kI_s, ↓kJ_s, ↓kN_s, ↓kO_s, ↓kZ_s, ↓kE_s, ↓an_rfl, ↓bt1 n00, ↓bt2 n00, ↓bf1 n10, ↓bf2 n10, ↓an_sz0, ↓an_sz1, ↓an_sz2, ↓an_sz3, ↓an_sz4, ↓an_ri, ↓an_rb0, ↓an_rb1, ↓an_b0, ↓an_b1, true_and, ↓ai_0s, ↓al_0s, ↓av_0s, ↓aq_0s, ↓ai_1s, ↓al_1s, ↓av_1s, ↓aq_1s, ↓ai_2s, ↓al_2s, ↓av_2s, ↓aq_2s, ↓ai_3s, ↓al_3s, ↓av_3s, ↓aq_3s, ↓ai_4s, ↓al_4s, ↓av_4s, ↓aq_4s, ↓ai_5s, ↓al_5s, ↓av_5s, ↓aq_5s, ↓ai_6s, ↓al_6s, ↓av_6s, ↓aq_6s, ↓ai_7s, ↓al_7s, ↓av_7s, ↓aq_7s, ↓an_l2, ↓bk_10004, ↓kp_10004_54, ↓an_t hc0, ↓an_rv hc0, ↓bf1 hc1, ↓bf2 hc1, ↓bf1 hc2, ↓bf2 hc2, ↓bt1 hc3, ↓bt2 hc3]
          rw [oW_some] at hs
          exact hs
        · replace hs := oW_f hs hc3
          by_cases hc4 : ((σ).1 x0 0) < (nI 6)
          · replace hs := oW_t hs hc4
            obtain ⟨n1, hc5, hs⟩ := oW_bx hs
            obtain ⟨t2, l3, hc6, hs⟩ := oW_ax hs
            obtain ⟨hc7, hs⟩ := oW_gx hs
            obtain ⟨hc8, hs⟩ := oW_gx hs
            simp (implicitDefEqProofs := false) only [↓hG, ↓hJf, ↓px_vc, ↓px_ex, ↓px_jp, ↓rq_gi_0, ↓rq_gi_S, ↓rq_gl_0, ↓rq_gl_S, ↓rq_gr_0, ↓rq_gr_S, ↓rq_s1_0, ↓rq_s1_1, ↓rq_s1_S, ↓rq_s2_0, ↓rq_s2_1, ↓rq_s2_S, ↓rq_nl_n, ↓rq_nl_i, ↓rq_nl_l, ↓rq_nl_r, ↓rq_i1_s, ↓rq_l1_s, ↓r1_s, ↓rq_q1_s, ↓rq_i2_s, ↓rq_l2_s, ↓rq_il_s, ↓rq_d0_s, ↓rq_d1_i, ↓rq_d1_r, ↓rq_d2_l, ↓rq_d2_ii, ↓rq_d2_ir, ↓px_pop, ↓px_sp, ↓px_rd, ↓px_rf, ↓pn_xf, ↓rq_pt_0, ↓rq_pt_1, ↓rq_pt_2, ↓rq_pt_3, ↓px_sw, ↓pn_SW, ↓px_ma, ↓reduceIte, Nat.reduceEqDiff, Nat.reduceAdd, Nat.reduceSub, ↓Option.toList_some, ↓Option.toList_none, ↓List.cons_append, ↓List.nil_append, ↓kI_s, ↓kJ_s, ↓kN_s, ↓kO_s, ↓kZ_s, ↓kE_s, ↓an_rfl, ↓bt1 n00, ↓bt2 n00, ↓bf1 n10, ↓bf2 n10, ↓an_sz0, ↓an_sz1, ↓an_sz2, ↓an_sz3, ↓an_sz4, ↓an_ri, ↓an_rb0, ↓an_rb1, ↓an_b0, ↓an_b1, true_and, ↓ai_0s, ↓al_0s, ↓av_0s, ↓aq_0s, ↓ai_1s, ↓al_1s, ↓av_1s, ↓aq_1s, ↓ai_2s, ↓al_2s, ↓av_2s, ↓aq_2s, ↓ai_3s, ↓al_3s, ↓av_3s, ↓aq_3s, ↓ai_4s, ↓al_4s, ↓av_4s, ↓aq_4s, ↓ai_5s, ↓al_5s, ↓av_5s, ↓aq_5s, ↓ai_6s, ↓al_6s, ↓av_6s, ↓aq_6s, ↓ai_7s, ↓al_7s, ↓av_7s, ↓aq_7s, ↓an_l2, ↓bk_10004, ↓kp_10004_54, ↓an_t hc0, ↓an_rv hc0, ↓bf1 hc1, ↓bf2 hc1, ↓bf1 hc2, ↓bf2 hc2, ↓bf1 hc3, ↓bf2 hc3, ↓bt1 hc4, ↓bt2 hc4, ↓r1_e hc5, ↓av_0e hc5, ↓av_1e hc5, ↓av_2e hc5, ↓av_3e hc5, ↓ar_e hc6, ↓an_t hc7, ↓an_t hc8]
            exact hs
          · replace hs := oW_f hs hc4
            simp (implicitDefEqProofs := false) only [↓hG, ↓hJf, ↓px_vc, ↓px_ex, ↓px_jp, ↓rq_gi_0, ↓rq_gi_S, ↓rq_gl_0, ↓rq_gl_S, ↓rq_gr_0, ↓rq_gr_S, ↓rq_s1_0, ↓rq_s1_1, ↓rq_s1_S, ↓rq_s2_0, ↓rq_s2_1, ↓rq_s2_S, ↓rq_nl_n, ↓rq_nl_i, ↓rq_nl_l, ↓rq_nl_r, ↓rq_i1_s, ↓rq_l1_s, ↓r1_s, ↓rq_q1_s, ↓rq_i2_s, ↓rq_l2_s, ↓rq_il_s, ↓rq_d0_s, ↓rq_d1_i, ↓rq_d1_r, ↓rq_d2_l, ↓rq_d2_ii, ↓rq_d2_ir, ↓px_pop, ↓px_sp, ↓px_rd, ↓px_rf, ↓pn_xf, ↓rq_pt_0, ↓rq_pt_1, ↓rq_pt_2, ↓rq_pt_3, ↓px_sw, ↓pn_SW, ↓px_ma, ↓reduceIte, Nat.reduceEqDiff, Nat.reduceAdd, Nat.reduceSub, ↓Option.toList_some, ↓Option.toList_none, ↓List.cons_append, ↓List.nil_append, ↓kI_s, ↓kJ_s, ↓kN_s, ↓kO_s, ↓kZ_s, ↓kE_s, ↓an_rfl, ↓bt1 n00, ↓bt2 n00, ↓bf1 n10, ↓bf2 n10, ↓an_sz0, ↓an_sz1, ↓an_sz2, ↓an_sz3, ↓an_sz4, ↓an_ri, ↓an_rb0, ↓an_rb1, ↓an_b0, ↓an_b1, true_and, ↓ai_0s, ↓al_0s, ↓av_0s, ↓aq_0s, ↓ai_1s, ↓al_1s, ↓av_1s, ↓aq_1s, ↓ai_2s, ↓al_2s, ↓av_2s, ↓aq_2s, ↓ai_3s, ↓al_3s, ↓av_3s, ↓aq_3s, ↓ai_4s, ↓al_4s, ↓av_4s, ↓aq_4s, ↓ai_5s, ↓al_5s, ↓av_5s, ↓aq_5s, ↓ai_6s, ↓al_6s, ↓av_6s, ↓aq_6s, ↓ai_7s, ↓al_7s, ↓av_7s, ↓aq_7s, ↓an_l2, ↓bk_10004, ↓kp_10004_54, ↓an_t hc0, ↓an_rv hc0, ↓bf1 hc1, ↓bf2 hc1, ↓bf1 hc2, ↓bf2 hc2, ↓bf1 hc3, ↓bf2 hc3, ↓bf1 hc4, ↓bf2 hc4]
            rw [oW_some] at hs
            exact hs
def Sg_9030 (g : px_M → Nat → Int32 → Option (Int32 × px_M)) : px_S := fun av σ k => av_0 av (fun x0 av => ai_1 av (fun x1 av => av = [] ∧ oW (g σ x0 x1) (fun q => k (some (.inl q.1)) q.2)))
def Sg_9031 (g : px_M → Nat → Int32 → Option (Int32 × px_M)) : px_S := fun av σ k => av_0 av (fun x0 av => ai_1 av (fun x1 av => av = [] ∧ oW (g σ x0 x1) (fun q => k (some (.inl q.1)) q.2)))
def Sg_9032 (g : px_M → Nat → Int32 → Option (Int32 × px_M)) : px_S := fun av σ k => av_0 av (fun x0 av => ai_1 av (fun x1 av => av = [] ∧ oW (g σ x0 x1) (fun q => k (some (.inl q.1)) q.2)))
/-- NoThree$Reader.readSum(I)Z -/
noncomputable def f_9030_89 (tab : px_T) (g9030 : px_M → Nat → Int32 → Option (Int32 × px_M)) (g9031 : px_M → Nat → Int32 → Option (Int32 × px_M)) (g9032 : px_M → Nat → Int32 → Option (Int32 × px_M)) (σ : px_M) (x0 : Nat) (x1 : Int32) (x2 : Int32) : Option ((Int32 × px_M) ⊕ (Int32 × px_M)) := some (.inl (((x2 + (nI 1)), σ)))
noncomputable def f_9030_35 (tab : px_T) (g9030 : px_M → Nat → Int32 → Option (Int32 × px_M)) (g9031 : px_M → Nat → Int32 → Option (Int32 × px_M)) (g9032 : px_M → Nat → Int32 → Option (Int32 × px_M)) (σ : px_M) (x0 : Nat) (x1 : Int32) (x2 : Int32) (x3 : Int32) : Option ((Int32 × px_M) ⊕ (Int32 × px_M)) := bn (x3 = nI 0) (gd (px_obj (px_lay tab x0) 9) ((f_9015 tab σ x0).bind fun q6 => (g9031 q6 x0 x1).bind fun q7 => bn (q7.1 = nI 0) ((((q7.2).2.2 x0 3)).bind fun n8 => gd (px_obj (px_lay tab n8) 1) ((((q7.2).2.2 n8 1)).bind fun n9 => gd (px_obj (px_lay tab n9) 10) ((f_10004 tab q7.2 n9 ((nI 2000))).bind fun q10 => f_9030_89 tab g9030 g9031 g9032 q10 x0 x1 x2))) (some (.inr (((nI 0), q7.2)))))) (gd (px_obj (px_lay tab x0) 9) (if ((σ).1 x0 9) = (nI 4045) then ((f_9015 tab σ x0).bind fun q1 => (g9031 q1 x0 x1).bind fun q2 => bn (q2.1 = nI 0) ((((q2.2).2.2 x0 3)).bind fun n3 => gd (px_obj (px_lay tab n3) 1) ((((q2.2).2.2 n3 1)).bind fun n4 => gd (px_obj (px_lay tab n4) 10) ((f_10004 tab q2.2 n4 ((nI 2001))).bind fun q5 => f_9030_89 tab g9030 g9031 g9032 q5 x0 x1 x2))) (some (.inr (((nI 0), q2.2))))) else (some (.inr (((nI 1), σ))))))
noncomputable def F_9030_12 (tab : px_T) (g9030 : px_M → Nat → Int32 → Option (Int32 × px_M)) (g9031 : px_M → Nat → Int32 → Option (Int32 × px_M)) (g9032 : px_M → Nat → Int32 → Option (Int32 × px_M)) (x0 : Nat) (x1 : Int32) (x2 : Int32) (σ : px_M) : Option ((Int32 × px_M) ⊕ (Int32 × px_M)) := if (nI 900) ≤ x2 then (some (.inr (((nI 1), σ)))) else (gd (px_obj (px_lay tab x0) 9) (bn (((σ).1 x0 9) = (nI 4043)) (f_9030_35 tab g9030 g9031 g9032 σ x0 x1 x2 ((nI 0))) (f_9030_35 tab g9030 g9031 g9032 σ x0 x1 x2 ((nI 1)))))
noncomputable def f_9030_12 (tab : px_T) (g9030 : px_M → Nat → Int32 → Option (Int32 × px_M)) (g9031 : px_M → Nat → Int32 → Option (Int32 × px_M)) (g9032 : px_M → Nat → Int32 → Option (Int32 × px_M)) (x0 : Nat) (x1 : Int32) (x2 : Int32) (σ : px_M) : Option (Int32 × px_M) := lpO (fun s : Int32 × px_M => F_9030_12 tab g9030 g9031 g9032 x0 x1 s.1 s.2) (x2, σ)
theorem f_9030_12_eq (tab : px_T) (g9030 : px_M → Nat → Int32 → Option (Int32 × px_M)) (g9031 : px_M → Nat → Int32 → Option (Int32 × px_M)) (g9032 : px_M → Nat → Int32 → Option (Int32 × px_M)) (x0 : Nat) (x1 : Int32) (x2 : Int32) (σ : px_M) : f_9030_12 tab g9030 g9031 g9032 x0 x1 x2 σ = (F_9030_12 tab g9030 g9031 g9032 x0 x1 x2 σ).bind (Sum.elim (fun s => f_9030_12 tab g9030 g9031 g9032 x0 x1 s.1 s.2) some) := lpO_eq _ _
noncomputable def F_9030 (tab : px_T) (g9030 : px_M → Nat → Int32 → Option (Int32 × px_M)) (g9031 : px_M → Nat → Int32 → Option (Int32 × px_M)) (g9032 : px_M → Nat → Int32 → Option (Int32 × px_M)) (σ : px_M) (x0 : Nat) (x1 : Int32) : Option (Int32 × px_M) := gd (px_obj (px_lay tab x0) 9) ((g9031 σ x0 x1).bind fun q1 => bn (q1.1 = nI 0) (f_9030_12 tab g9030 g9031 g9032 x0 x1 ((nI 0)) q1.2) (some (((nI 0), q1.2))))
def kp_9030_89 (Q : Nat → Int32 → Int32 → px_M → Prop) : px_P := fun ls st τ => st = [] ∧ kN ls (fun x0 ls => kI ls (fun x1 ls => kI ls (fun x2 ls => kZ ls (fun ls => kE ls (Q x0 x1 x2 τ)))))
theorem kq_9030_89 {C : px_C} {k : Option px_V → px_M → Prop} {Q : Nat → Int32 → Int32 → px_M → Prop} (H : ∀ (x0 : Nat) (x1 : Int32) (x2 : Int32) (τ : px_M), Q x0 x1 x2 τ → ∀ (z3 : Option px_V), px_W C k 89 [some (.inr (.inr (some x0))), some (.inl x1), some (.inl x2), z3] [] τ) : ∀ ls st τ, kp_9030_89 Q ls st τ → px_W C k 89 ls st τ := by
  intro ls st τ hz
  obtain ⟨ez, h0⟩ := hz
  obtain ⟨x0, l0, e0, h1⟩ := kN_sp h0
  obtain ⟨x1, l1, e1, h2⟩ := kI_sp h1
  obtain ⟨x2, l2, e2, h3⟩ := kI_sp h2
  obtain ⟨z3, l3, e3, h4⟩ := kZ_sp h3
  obtain ⟨ey, hy⟩ := kE_sp h4
  subst ez
  subst ey
  subst e3
  subst e2
  subst e1
  subst e0
  exact H x0 x1 x2 τ hy z3
def kp_9030_35 (Q : Nat → Int32 → Int32 → Int32 → px_M → Prop) : px_P := fun ls st τ => st = [] ∧ kN ls (fun x0 ls => kI ls (fun x1 ls => kI ls (fun x2 ls => kI ls (fun x3 ls => kE ls (Q x0 x1 x2 x3 τ)))))
theorem kq_9030_35 {C : px_C} {k : Option px_V → px_M → Prop} {Q : Nat → Int32 → Int32 → Int32 → px_M → Prop} (H : ∀ (x0 : Nat) (x1 : Int32) (x2 : Int32) (x3 : Int32) (τ : px_M), Q x0 x1 x2 x3 τ → px_W C k 35 [some (.inr (.inr (some x0))), some (.inl x1), some (.inl x2), some (.inl x3)] [] τ) : ∀ ls st τ, kp_9030_35 Q ls st τ → px_W C k 35 ls st τ := by
  intro ls st τ hz
  obtain ⟨ez, h0⟩ := hz
  obtain ⟨x0, l0, e0, h1⟩ := kN_sp h0
  obtain ⟨x1, l1, e1, h2⟩ := kI_sp h1
  obtain ⟨x2, l2, e2, h3⟩ := kI_sp h2
  obtain ⟨x3, l3, e3, h4⟩ := kI_sp h3
  obtain ⟨ey, hy⟩ := kE_sp h4
  subst ez
  subst ey
  subst e3
  subst e2
  subst e1
  subst e0
  exact H x0 x1 x2 x3 τ hy
def kp_9030_12 (Q : Nat → Int32 → Int32 → px_M → Prop) : px_P := fun ls st τ => st = [] ∧ kN ls (fun x0 ls => kI ls (fun x1 ls => kI ls (fun x2 ls => kZ ls (fun ls => kE ls (Q x0 x1 x2 τ)))))
theorem kq_9030_12 {C : px_C} {k : Option px_V → px_M → Prop} {Q : Nat → Int32 → Int32 → px_M → Prop} (H : ∀ (x0 : Nat) (x1 : Int32) (x2 : Int32) (τ : px_M), Q x0 x1 x2 τ → ∀ (z3 : Option px_V), px_W C k 12 [some (.inr (.inr (some x0))), some (.inl x1), some (.inl x2), z3] [] τ) : ∀ ls st τ, kp_9030_12 Q ls st τ → px_W C k 12 ls st τ := by
  intro ls st τ hz
  obtain ⟨ez, h0⟩ := hz
  obtain ⟨x0, l0, e0, h1⟩ := kN_sp h0
  obtain ⟨x1, l1, e1, h2⟩ := kI_sp h1
  obtain ⟨x2, l2, e2, h3⟩ := kI_sp h2
  obtain ⟨z3, l3, e3, h4⟩ := kZ_sp h3
  obtain ⟨ey, hy⟩ := kE_sp h4
  subst ez
  subst ey
  subst e3
  subst e2
  subst e1
  subst e0
  exact H x0 x1 x2 τ hy z3
set_option maxHeartbeats 4000000 in
set_option maxRecDepth 100000 in
theorem rl_9030_89 {C : px_C} (hn : px_nd (px_tb C)) {h : Nat} (hh : 3 ≤ h) (hC : px_ok C pn_i9030 h) {g9030 : px_M → Nat → Int32 → Option (Int32 × px_M)} {g9031 : px_M → Nat → Int32 → Option (Int32 × px_M)} {g9032 : px_M → Nat → Int32 → Option (Int32 × px_M)} (hg9030 : px_Ok (px_tb C) pn_i9030 (h - 1) (Sg_9030 g9030)) (hg9031 : px_Ok (px_tb C) pn_i9031 (h - 1) (Sg_9031 g9031)) (hg9032 : px_Ok (px_tb C) pn_i9032 (h - 1) (Sg_9032 g9032)) {k : Option px_V → px_M → Prop} {x0 : Nat} {x1 : Int32} {x2 : Int32} {σ : px_M} (hs : oW (f_9030_89 (px_tb C) g9030 g9031 g9032 σ x0 x1 x2) (Sum.elim (fun s : Int32 × px_M => ∀ (z3 : Option px_V), px_W C k 12 [some (.inr (.inr (some x0))), some (.inl x1), some (.inl s.1), z3] [] s.2) (fun q => k (some (.inl q.1)) q.2))) : ∀ (z3 : Option px_V), px_W C k 89 [some (.inr (.inr (some x0))), some (.inl x1), some (.inl x2), z3] [] σ := by
  intro z3
  refine px_runH (h - 1) ck_9030 [] [(12, kp_9030_12 (fun y0 y1 y2 τ => y0 = x0 ∧ y1 = x1 ∧ (fun s : Int32 × px_M => ∀ (z3 : Option px_V), px_W C k 12 [some (.inr (.inr (some x0))), some (.inl x1), some (.inl s.1), z3] [] s.2) (y2, τ)))] 80 4 (some .boolean) rfl rfl hC px_nosp (by omega) (px_cut1 (kq_9030_12 (fun y0 y1 y2 τ hq => by obtain ⟨rfl, rfl, hq⟩ := hq; exact hq)) px_nocut) (fun G Jf hG hJf => ?_)
  unfold f_9030_89 at hs
  simp (implicitDefEqProofs := false) only [↓hG, ↓hJf, ↓px_vc, ↓px_ex, ↓px_jp, ↓rq_gi_0, ↓rq_gi_S, ↓rq_gl_0, ↓rq_gl_S, ↓rq_gr_0, ↓rq_gr_S, ↓rq_s1_0, ↓rq_s1_1, ↓rq_s1_S, ↓rq_s2_0, ↓rq_s2_1, ↓rq_s2_S, ↓rq_nl_n, ↓rq_nl_i, ↓rq_nl_l, ↓rq_nl_r, ↓rq_i1_s, ↓rq_l1_s, ↓r1_s, ↓rq_q1_s, ↓rq_i2_s, ↓rq_l2_s, ↓rq_il_s, ↓rq_d0_s, ↓rq_d1_i, ↓rq_d1_r, ↓rq_d2_l, ↓rq_d2_ii, ↓rq_d2_ir, ↓px_pop, ↓px_sp, ↓px_rd, ↓px_rf, ↓pn_xf, ↓rq_pt_0, ↓rq_pt_1, ↓rq_pt_2, ↓rq_pt_3, ↓px_sw, ↓pn_SW, ↓px_ma, ↓reduceIte, Nat.reduceEqDiff, Nat.reduceAdd, Nat.reduceSub, ↓Option.toList_some, ↓Option.toList_none, ↓List.cons_append, ↓List.nil_append, ↓kI_s, ↓kJ_s, ↓kN_s, ↓kO_s, ↓kZ_s, ↓kE_s, ↓an_rfl, ↓bt1 n00, ↓bt2 n00, ↓bf1 n10, ↓bf2 n10, ↓an_sz0, ↓an_sz1, ↓an_sz2, ↓an_sz3, ↓an_sz4, ↓an_ri, ↓an_rb0, ↓an_rb1, ↓an_b0, ↓an_b1, true_and, ↓ai_0s, ↓al_0s, ↓av_0s, ↓aq_0s, ↓ai_1s, ↓al_1s, ↓av_1s, ↓aq_1s, ↓ai_2s, ↓al_2s, ↓av_2s, ↓aq_2s, ↓ai_3s, ↓al_3s, ↓av_3s, ↓aq_3s, ↓ai_4s, ↓al_4s, ↓av_4s, ↓aq_4s, ↓ai_5s, ↓al_5s, ↓av_5s, ↓aq_5s, ↓ai_6s, ↓al_6s, ↓av_6s, ↓aq_6s, ↓ai_7s, ↓al_7s, ↓av_7s, ↓aq_7s, ↓an_l4, ↓bk_9030, ↓kp_9030_12]
  rw [oW_some] at hs
  exact hs
set_option maxHeartbeats 4000000 in
set_option maxRecDepth 100000 in
theorem rl_9030_35 {C : px_C} (hn : px_nd (px_tb C)) {h : Nat} (hh : 3 ≤ h) (hC : px_ok C pn_i9030 h) {g9030 : px_M → Nat → Int32 → Option (Int32 × px_M)} {g9031 : px_M → Nat → Int32 → Option (Int32 × px_M)} {g9032 : px_M → Nat → Int32 → Option (Int32 × px_M)} (hg9030 : px_Ok (px_tb C) pn_i9030 (h - 1) (Sg_9030 g9030)) (hg9031 : px_Ok (px_tb C) pn_i9031 (h - 1) (Sg_9031 g9031)) (hg9032 : px_Ok (px_tb C) pn_i9032 (h - 1) (Sg_9032 g9032)) {k : Option px_V → px_M → Prop} {x0 : Nat} {x1 : Int32} {x2 : Int32} {x3 : Int32} {σ : px_M} (hs : oW (f_9030_35 (px_tb C) g9030 g9031 g9032 σ x0 x1 x2 x3) (Sum.elim (fun s : Int32 × px_M => ∀ (z3 : Option px_V), px_W C k 12 [some (.inr (.inr (some x0))), some (.inl x1), some (.inl s.1), z3] [] s.2) (fun q => k (some (.inl q.1)) q.2))) : px_W C k 35 [some (.inr (.inr (some x0))), some (.inl x1), some (.inl x2), some (.inl x3)] [] σ := by
  refine px_runH (h - 1) ck_9030 [(9015, Sg_9015 (f_9015 (px_tb C))), (9031, Sg_9031 g9031), (10004, Sg_10004 (f_10004 (px_tb C)))] [(89, kp_9030_89 (fun y0 y1 y2 τ => y0 = x0 ∧ y1 = x1 ∧ oW (f_9030_89 (px_tb C) g9030 g9031 g9032 τ y0 y1 y2) (Sum.elim (fun s : Int32 × px_M => ∀ (z3 : Option px_V), px_W C k 12 [some (.inr (.inr (some x0))), some (.inl x1), some (.inl s.1), z3] [] s.2) (fun q => k (some (.inl q.1)) q.2))))] 80 4 (some .boolean) rfl rfl hC (px_sp1 (mf_9015 hn (by omega)) (px_sp1 (hg9031) (px_sp1 (mf_10004 hn (by omega)) px_nosp))) (by omega) (px_cut1 (kq_9030_89 (fun y0 y1 y2 τ hq => by obtain ⟨rfl, rfl, hq⟩ := hq; exact rl_9030_89 hn (by omega) hC hg9030 hg9031 hg9032  hq)) px_nocut) (fun G Jf hG hJf => ?_)
  unfold f_9030_35 at hs
  by_cases hc0 : x3 = nI 0
  · replace hs := bW_t hs hc0
    obtain ⟨hc1, hs⟩ := oW_gx hs
    by_cases hc2 : ((σ).1 x0 9) = (nI 4045)
    · replace hs := oW_t hs hc2
      obtain ⟨q1, hc3, hs⟩ := oW_bx hs
      obtain ⟨q2, hc4, hs⟩ := oW_bx hs
      by_cases hc5 : q2.1 = nI 0
      · replace hs := bW_t hs hc5
        simp (implicitDefEqProofs := false) only [↓hG, ↓hJf, ↓px_vc, ↓px_ex, ↓px_jp, ↓rq_gi_0, ↓rq_gi_S, ↓rq_gl_0, ↓rq_gl_S, ↓rq_gr_0, ↓rq_gr_S, ↓rq_s1_0, ↓rq_s1_1, ↓rq_s1_S, ↓rq_s2_0, ↓rq_s2_1, ↓rq_s2_S, ↓rq_nl_n, ↓rq_nl_i, ↓rq_nl_l, ↓rq_nl_r, ↓rq_i1_s, ↓rq_l1_s, ↓r1_s, ↓rq_q1_s, ↓rq_i2_s, ↓rq_l2_s, ↓rq_il_s, ↓rq_d0_s, ↓rq_d1_i, ↓rq_d1_r, ↓rq_d2_l, ↓rq_d2_ii, ↓rq_d2_ir, ↓px_pop, ↓px_sp, ↓px_rd, ↓px_rf, ↓pn_xf, ↓rq_pt_0, ↓rq_pt_1, ↓rq_pt_2, ↓rq_pt_3, ↓px_sw, ↓pn_SW, ↓px_ma, ↓reduceIte, Nat.reduceEqDiff, Nat.reduceAdd, Nat.reduceSub, ↓Option.toList_some, ↓Option.toList_none, ↓List.cons_append, ↓List.nil_append, ↓kI_s, ↓kJ_s, ↓kN_s, ↓kO_s, ↓kZ_s, ↓kE_s, ↓an_rfl, ↓bt1 n00, ↓bt2 n00, ↓bf1 n10, ↓bf2 n10, ↓an_sz0, ↓an_sz1, ↓an_sz2, ↓an_sz3, ↓an_sz4, ↓an_ri, ↓an_rb0, ↓an_rb1, ↓an_b0, ↓an_b1, true_and, ↓ai_0s, ↓al_0s, ↓av_0s, ↓aq_0s, ↓ai_1s, ↓al_1s, ↓av_1s, ↓aq_1s, ↓ai_2s, ↓al_2s, ↓av_2s, ↓aq_2s, ↓ai_3s, ↓al_3s, ↓av_3s, ↓aq_3s, ↓ai_4s, ↓al_4s, ↓av_4s, ↓aq_4s, ↓ai_5s, ↓al_5s, ↓av_5s, ↓aq_5s, ↓ai_6s, ↓al_6s, ↓av_6s, ↓aq_6s, ↓ai_7s, ↓al_7s, ↓av_7s, ↓aq_7s, ↓an_l4, ↓bk_9030, ↓Sg_9015, ↓Sg_9031, ↓Sg_10004, ↓kp_9030_89, ↓bt1 hc0, ↓bt2 hc0, ↓an_t hc1, ↓an_rv hc1, ↓bt1 hc2, ↓bt2 hc2, ↓oW_e hc3, ↓oW_e hc4, ↓bt1 hc5, ↓bt2 hc5]
        rw [oW_some] at hs
        exact hs
      · replace hs := bW_f hs hc5
        obtain ⟨n3, hc6, hs⟩ := oW_bx hs
        obtain ⟨hc7, hs⟩ := oW_gx hs
        obtain ⟨n4, hc8, hs⟩ := oW_bx hs
        obtain ⟨hc9, hs⟩ := oW_gx hs
        obtain ⟨q5, hc10, hs⟩ := oW_bx hs
        simp (implicitDefEqProofs := false) only [↓hG, ↓hJf, ↓px_vc, ↓px_ex, ↓px_jp, ↓rq_gi_0, ↓rq_gi_S, ↓rq_gl_0, ↓rq_gl_S, ↓rq_gr_0, ↓rq_gr_S, ↓rq_s1_0, ↓rq_s1_1, ↓rq_s1_S, ↓rq_s2_0, ↓rq_s2_1, ↓rq_s2_S, ↓rq_nl_n, ↓rq_nl_i, ↓rq_nl_l, ↓rq_nl_r, ↓rq_i1_s, ↓rq_l1_s, ↓r1_s, ↓rq_q1_s, ↓rq_i2_s, ↓rq_l2_s, ↓rq_il_s, ↓rq_d0_s, ↓rq_d1_i, ↓rq_d1_r, ↓rq_d2_l, ↓rq_d2_ii, ↓rq_d2_ir, ↓px_pop, ↓px_sp, ↓px_rd, ↓px_rf, ↓pn_xf, ↓rq_pt_0, ↓rq_pt_1, ↓rq_pt_2, ↓rq_pt_3, ↓px_sw, ↓pn_SW, ↓px_ma, ↓reduceIte, Nat.reduceEqDiff, Nat.reduceAdd, Nat.reduceSub, ↓Option.toList_some, ↓Option.toList_none, ↓List.cons_append, ↓List.nil_append, ↓kI_s, ↓kJ_s, ↓kN_s, ↓kO_s, ↓kZ_s, ↓kE_s, ↓an_rfl, ↓bt1 n00, ↓bt2 n00, ↓bf1 n10, ↓bf2 n10, ↓an_sz0, ↓an_sz1, ↓an_sz2, ↓an_sz3, ↓an_sz4, ↓an_ri, ↓an_rb0, ↓an_rb1, ↓an_b0, ↓an_b1, true_and, ↓ai_0s, ↓al_0s, ↓av_0s, ↓aq_0s, ↓ai_1s, ↓al_1s, ↓av_1s, ↓aq_1s, ↓ai_2s, ↓al_2s, ↓av_2s, ↓aq_2s, ↓ai_3s, ↓al_3s, ↓av_3s, ↓aq_3s, ↓ai_4s, ↓al_4s, ↓av_4s, ↓aq_4s, ↓ai_5s, ↓al_5s, ↓av_5s, ↓aq_5s, ↓ai_6s, ↓al_6s, ↓av_6s, ↓aq_6s, ↓ai_7s, ↓al_7s, ↓av_7s, ↓aq_7s, ↓an_l4, ↓bk_9030, ↓Sg_9015, ↓Sg_9031, ↓Sg_10004, ↓kp_9030_89, ↓bt1 hc0, ↓bt2 hc0, ↓an_t hc1, ↓an_rv hc1, ↓bt1 hc2, ↓bt2 hc2, ↓oW_e hc3, ↓oW_e hc4, ↓bf1 hc5, ↓bf2 hc5, ↓r1_e hc6, ↓av_0e hc6, ↓av_1e hc6, ↓av_2e hc6, ↓av_3e hc6, ↓an_t hc7, ↓an_rv hc7, ↓an_rvo hc6 hc7, ↓r1_e hc8, ↓av_0e hc8, ↓av_1e hc8, ↓av_2e hc8, ↓av_3e hc8, ↓an_t hc9, ↓an_rv hc9, ↓an_rvo hc8 hc9, ↓oW_e hc10]
        exact hs
    · replace hs := oW_f hs hc2
      simp (implicitDefEqProofs := false) only [↓hG, ↓hJf, ↓px_vc, ↓px_ex, ↓px_jp, ↓rq_gi_0, ↓rq_gi_S, ↓rq_gl_0, ↓rq_gl_S, ↓rq_gr_0, ↓rq_gr_S, ↓rq_s1_0, ↓rq_s1_1, ↓rq_s1_S, ↓rq_s2_0, ↓rq_s2_1, ↓rq_s2_S, ↓rq_nl_n, ↓rq_nl_i, ↓rq_nl_l, ↓rq_nl_r, ↓rq_i1_s, ↓rq_l1_s, ↓r1_s, ↓rq_q1_s, ↓rq_i2_s, ↓rq_l2_s, ↓rq_il_s, ↓rq_d0_s, ↓rq_d1_i, ↓rq_d1_r, ↓rq_d2_l, ↓rq_d2_ii, ↓rq_d2_ir, ↓px_pop, ↓px_sp, ↓px_rd, ↓px_rf, ↓pn_xf, ↓rq_pt_0, ↓rq_pt_1, ↓rq_pt_2, ↓rq_pt_3, ↓px_sw, ↓pn_SW, ↓px_ma, ↓reduceIte, Nat.reduceEqDiff, Nat.reduceAdd, Nat.reduceSub, ↓Option.toList_some, ↓Option.toList_none, ↓List.cons_append, ↓List.nil_append, ↓kI_s, ↓kJ_s, ↓kN_s, ↓kO_s, ↓kZ_s, ↓kE_s, ↓an_rfl, ↓bt1 n00, ↓bt2 n00, ↓bf1 n10, ↓bf2 n10, ↓an_sz0, ↓an_sz1, ↓an_sz2, ↓an_sz3, ↓an_sz4, ↓an_ri, ↓an_rb0, ↓an_rb1, ↓an_b0, ↓an_b1, true_and, ↓ai_0s, ↓al_0s, ↓av_0s, ↓aq_0s, ↓ai_1s, ↓al_1s, ↓av_1s, ↓aq_1s, ↓ai_2s, ↓al_2s, ↓av_2s, ↓aq_2s, ↓ai_3s, ↓al_3s, ↓av_3s, ↓aq_3s, ↓ai_4s, ↓al_4s, ↓av_4s, ↓aq_4s, ↓ai_5s, ↓al_5s, ↓av_5s, ↓aq_5s, ↓ai_6s, ↓al_6s, ↓av_6s, ↓aq_6s, ↓ai_7s, ↓al_7s, ↓av_7s, ↓aq_7s, ↓an_l4, ↓bk_9030, ↓Sg_9015, ↓Sg_9031, ↓Sg_10004, ↓kp_9030_89, ↓bt1 hc0, ↓bt2 hc0, ↓an_t hc1, ↓an_rv hc1, ↓bf1 hc2, ↓bf2 hc2]
      rw [oW_some] at hs
      exact hs
  · replace hs := bW_f hs hc0
    obtain ⟨hc1, hs⟩ := oW_gx hs
    obtain ⟨q6, hc2, hs⟩ := oW_bx hs
    obtain ⟨q7, hc3, hs⟩ := oW_bx hs
    by_cases hc4 : q7.1 = nI 0
    · replace hs := bW_t hs hc4
      simp (implicitDefEqProofs := false) only [↓hG, ↓hJf, ↓px_vc, ↓px_ex, ↓px_jp, ↓rq_gi_0, ↓rq_gi_S, ↓rq_gl_0, ↓rq_gl_S, ↓rq_gr_0, ↓rq_gr_S, ↓rq_s1_0, ↓rq_s1_1, ↓rq_s1_S, ↓rq_s2_0, ↓rq_s2_1, ↓rq_s2_S, ↓rq_nl_n, ↓rq_nl_i, ↓rq_nl_l, ↓rq_nl_r, ↓rq_i1_s, ↓rq_l1_s, ↓r1_s, ↓rq_q1_s, ↓rq_i2_s, ↓rq_l2_s, ↓rq_il_s, ↓rq_d0_s, ↓rq_d1_i, ↓rq_d1_r, ↓rq_d2_l, ↓rq_d2_ii, ↓rq_d2_ir, ↓px_pop, ↓px_sp, ↓px_rd, ↓px_rf, ↓pn_xf, ↓rq_pt_0, ↓rq_pt_1, ↓rq_pt_2, ↓rq_pt_3, ↓px_sw, ↓pn_SW, ↓px_ma, ↓reduceIte, Nat.reduceEqDiff, Nat.reduceAdd, Nat.reduceSub, ↓Option.toList_some, ↓Option.toList_none, ↓List.cons_append, ↓List.nil_append, ↓kI_s, ↓kJ_s, ↓kN_s, ↓kO_s, ↓kZ_s, ↓kE_s, ↓an_rfl, ↓bt1 n00, ↓bt2 n00, ↓bf1 n10, ↓bf2 n10, ↓an_sz0, ↓an_sz1, ↓an_sz2, ↓an_sz3, ↓an_sz4, ↓an_ri, ↓an_rb0, ↓an_rb1, ↓an_b0, ↓an_b1, true_and, ↓ai_0s, ↓al_0s, ↓av_0s, ↓aq_0s, ↓ai_1s, ↓al_1s, ↓av_1s, ↓aq_1s, ↓ai_2s, ↓al_2s, ↓av_2s, ↓aq_2s, ↓ai_3s, ↓al_3s, ↓av_3s, ↓aq_3s, ↓ai_4s, ↓al_4s, ↓av_4s, ↓aq_4s, ↓ai_5s, ↓al_5s, ↓av_5s, ↓aq_5s, ↓ai_6s, ↓al_6s, ↓av_6s, ↓aq_6s, ↓ai_7s, ↓al_7s, ↓av_7s, ↓aq_7s, ↓an_l4, ↓bk_9030, ↓Sg_9015, ↓Sg_9031, ↓Sg_10004, ↓kp_9030_89, ↓bf1 hc0, ↓bf2 hc0, ↓an_t hc1, ↓an_rv hc1, ↓oW_e hc2, ↓oW_e hc3, ↓bt1 hc4, ↓bt2 hc4]
      rw [oW_some] at hs
      exact hs
    · replace hs := bW_f hs hc4
      obtain ⟨n8, hc5, hs⟩ := oW_bx hs
      obtain ⟨hc6, hs⟩ := oW_gx hs
      obtain ⟨n9, hc7, hs⟩ := oW_bx hs
      obtain ⟨hc8, hs⟩ := oW_gx hs
      obtain ⟨q10, hc9, hs⟩ := oW_bx hs
      simp (implicitDefEqProofs := false) only [↓hG, ↓hJf, ↓px_vc, ↓px_ex, ↓px_jp, ↓rq_gi_0, ↓rq_gi_S, ↓rq_gl_0, ↓rq_gl_S, ↓rq_gr_0, ↓rq_gr_S, ↓rq_s1_0, ↓rq_s1_1, ↓rq_s1_S, ↓rq_s2_0, ↓rq_s2_1, ↓rq_s2_S, ↓rq_nl_n, ↓rq_nl_i, ↓rq_nl_l, ↓rq_nl_r, ↓rq_i1_s, ↓rq_l1_s, ↓r1_s, ↓rq_q1_s, ↓rq_i2_s, ↓rq_l2_s, ↓rq_il_s, ↓rq_d0_s, ↓rq_d1_i, ↓rq_d1_r, ↓rq_d2_l, ↓rq_d2_ii, ↓rq_d2_ir, ↓px_pop, ↓px_sp, ↓px_rd, ↓px_rf, ↓pn_xf, ↓rq_pt_0, ↓rq_pt_1, ↓rq_pt_2, ↓rq_pt_3, ↓px_sw, ↓pn_SW, ↓px_ma, ↓reduceIte, Nat.reduceEqDiff, Nat.reduceAdd, Nat.reduceSub, ↓Option.toList_some, ↓Option.toList_none, ↓List.cons_append, ↓List.nil_append, ↓kI_s, ↓kJ_s, ↓kN_s, ↓kO_s, ↓kZ_s, ↓kE_s, ↓an_rfl, ↓bt1 n00, ↓bt2 n00, ↓bf1 n10, ↓bf2 n10, ↓an_sz0, ↓an_sz1, ↓an_sz2, ↓an_sz3, ↓an_sz4, ↓an_ri, ↓an_rb0, ↓an_rb1, ↓an_b0, ↓an_b1, true_and, ↓ai_0s, ↓al_0s, ↓av_0s, ↓aq_0s, ↓ai_1s, ↓al_1s, ↓av_1s, ↓aq_1s, ↓ai_2s, ↓al_2s, ↓av_2s, ↓aq_2s, ↓ai_3s, ↓al_3s, ↓av_3s, ↓aq_3s, ↓ai_4s, ↓al_4s, ↓av_4s, ↓aq_4s, ↓ai_5s, ↓al_5s, ↓av_5s, ↓aq_5s, ↓ai_6s, ↓al_6s, ↓av_6s, ↓aq_6s, ↓ai_7s, ↓al_7s, ↓av_7s, ↓aq_7s, ↓an_l4, ↓bk_9030, ↓Sg_9015, ↓Sg_9031, ↓Sg_10004, ↓kp_9030_89, ↓bf1 hc0, ↓bf2 hc0, ↓an_t hc1, ↓an_rv hc1, ↓oW_e hc2, ↓oW_e hc3, ↓bf1 hc4, ↓bf2 hc4, ↓r1_e hc5, ↓av_0e hc5, ↓av_1e hc5, ↓av_2e hc5, ↓av_3e hc5, ↓an_t hc6, ↓an_rv hc6, ↓an_rvo hc5 hc6, ↓r1_e hc7, ↓av_0e hc7, ↓av_1e hc7, ↓av_2e hc7, ↓av_3e hc7, ↓an_t hc8, ↓an_rv hc8, ↓an_rvo hc7 hc8, ↓oW_e hc9]
      exact hs
set_option maxHeartbeats 4000000 in
set_option maxRecDepth 100000 in
theorem rl_9030_12 {C : px_C} (hn : px_nd (px_tb C)) {h : Nat} (hh : 3 ≤ h) (hC : px_ok C pn_i9030 h) {g9030 : px_M → Nat → Int32 → Option (Int32 × px_M)} {g9031 : px_M → Nat → Int32 → Option (Int32 × px_M)} {g9032 : px_M → Nat → Int32 → Option (Int32 × px_M)} (hg9030 : px_Ok (px_tb C) pn_i9030 (h - 1) (Sg_9030 g9030)) (hg9031 : px_Ok (px_tb C) pn_i9031 (h - 1) (Sg_9031 g9031)) (hg9032 : px_Ok (px_tb C) pn_i9032 (h - 1) (Sg_9032 g9032)) {k : Option px_V → px_M → Prop} {x0 : Nat} {x1 : Int32} : ∀ s : Int32 × px_M, oW (f_9030_12 (px_tb C) g9030 g9031 g9032 x0 x1 s.1 s.2) (fun q => k (some (.inl q.1)) q.2) → (fun s : Int32 × px_M => ∀ (z3 : Option px_V), px_W C k 12 [some (.inr (.inr (some x0))), some (.inl x1), some (.inl s.1), z3] [] s.2) s := by
  intro s h0
  refine lpO_sound (P := (fun s : Int32 × px_M => ∀ (z3 : Option px_V), px_W C k 12 [some (.inr (.inr (some x0))), some (.inl x1), some (.inl s.1), z3] [] s.2)) (fun s hs => ?_) h0
  obtain ⟨x2, σ⟩ := s
  intro z3
  refine px_runH (h - 1) ck_9030 [] [(35, kp_9030_35 (fun y0 y1 y2 y3 τ => y0 = x0 ∧ y1 = x1 ∧ oW (f_9030_35 (px_tb C) g9030 g9031 g9032 τ y0 y1 y2 y3) (Sum.elim (fun s : Int32 × px_M => ∀ (z3 : Option px_V), px_W C k 12 [some (.inr (.inr (some x0))), some (.inl x1), some (.inl s.1), z3] [] s.2) (fun q => k (some (.inl q.1)) q.2))))] 80 4 (some .boolean) rfl rfl hC px_nosp (by omega) (px_cut1 (kq_9030_35 (fun y0 y1 y2 y3 τ hq => by obtain ⟨rfl, rfl, hq⟩ := hq; exact rl_9030_35 hn (by omega) hC hg9030 hg9031 hg9032  hq)) px_nocut) (fun G Jf hG hJf => ?_)
  replace hs : oW (F_9030_12 (px_tb C) g9030 g9031 g9032 x0 x1 x2 σ) _ := hs
  unfold F_9030_12 at hs
  by_cases hc0 : (nI 900) ≤ x2
  · replace hs := oW_t hs hc0
    simp (implicitDefEqProofs := false) only [↓hG, ↓hJf, ↓px_vc, ↓px_ex, ↓px_jp, ↓rq_gi_0, ↓rq_gi_S, ↓rq_gl_0, ↓rq_gl_S, ↓rq_gr_0, ↓rq_gr_S, ↓rq_s1_0, ↓rq_s1_1, ↓rq_s1_S, ↓rq_s2_0, ↓rq_s2_1, ↓rq_s2_S, ↓rq_nl_n, ↓rq_nl_i, ↓rq_nl_l, ↓rq_nl_r, ↓rq_i1_s, ↓rq_l1_s, ↓r1_s, ↓rq_q1_s, ↓rq_i2_s, ↓rq_l2_s, ↓rq_il_s, ↓rq_d0_s, ↓rq_d1_i, ↓rq_d1_r, ↓rq_d2_l, ↓rq_d2_ii, ↓rq_d2_ir, ↓px_pop, ↓px_sp, ↓px_rd, ↓px_rf, ↓pn_xf, ↓rq_pt_0, ↓rq_pt_1, ↓rq_pt_2, ↓rq_pt_3, ↓px_sw, ↓pn_SW, ↓px_ma, ↓reduceIte, Nat.reduceEqDiff, Nat.reduceAdd, Nat.reduceSub, ↓Option.toList_some, ↓Option.toList_none, ↓List.cons_append, ↓List.nil_append, ↓kI_s, ↓kJ_s, ↓kN_s, ↓kO_s, ↓kZ_s, ↓kE_s, ↓an_rfl, ↓bt1 n00, ↓bt2 n00, ↓bf1 n10, ↓bf2 n10, ↓an_sz0, ↓an_sz1, ↓an_sz2, ↓an_sz3, ↓an_sz4, ↓an_ri, ↓an_rb0, ↓an_rb1, ↓an_b0, ↓an_b1, true_and, ↓ai_0s, ↓al_0s, ↓av_0s, ↓aq_0s, ↓ai_1s, ↓al_1s, ↓av_1s, ↓aq_1s, ↓ai_2s, ↓al_2s, ↓av_2s, ↓aq_2s, ↓ai_3s, ↓al_3s, ↓av_3s, ↓aq_3s, ↓ai_4s, ↓al_4s, ↓av_4s, ↓aq_4s, ↓ai_5s, ↓al_5s, ↓av_5s, ↓aq_5s, ↓ai_6s, ↓al_6s, ↓av_6s, ↓aq_6s, ↓ai_7s, ↓al_7s, ↓av_7s, ↓aq_7s, ↓an_l4, ↓bk_9030, ↓kp_9030_35, ↓bt1 hc0, ↓bt2 hc0]
    rw [oW_some] at hs
    exact hs
  · replace hs := oW_f hs hc0
    obtain ⟨hc1, hs⟩ := oW_gx hs
    by_cases hc2 : ((σ).1 x0 9) = (nI 4043)
    · replace hs := bW_t hs hc2
      simp (implicitDefEqProofs := false) only [↓hG, ↓hJf, ↓px_vc, ↓px_ex, ↓px_jp, ↓rq_gi_0, ↓rq_gi_S, ↓rq_gl_0, ↓rq_gl_S, ↓rq_gr_0, ↓rq_gr_S, ↓rq_s1_0, ↓rq_s1_1, ↓rq_s1_S, ↓rq_s2_0, ↓rq_s2_1, ↓rq_s2_S, ↓rq_nl_n, ↓rq_nl_i, ↓rq_nl_l, ↓rq_nl_r, ↓rq_i1_s, ↓rq_l1_s, ↓r1_s, ↓rq_q1_s, ↓rq_i2_s, ↓rq_l2_s, ↓rq_il_s, ↓rq_d0_s, ↓rq_d1_i, ↓rq_d1_r, ↓rq_d2_l, ↓rq_d2_ii, ↓rq_d2_ir, ↓px_pop, ↓px_sp, ↓px_rd, ↓px_rf, ↓pn_xf, ↓rq_pt_0, ↓rq_pt_1, ↓rq_pt_2, ↓rq_pt_3, ↓px_sw, ↓pn_SW, ↓px_ma, ↓reduceIte, Nat.reduceEqDiff, Nat.reduceAdd, Nat.reduceSub, ↓Option.toList_some, ↓Option.toList_none, ↓List.cons_append, ↓List.nil_append, ↓kI_s, ↓kJ_s, ↓kN_s, ↓kO_s, ↓kZ_s, ↓kE_s, ↓an_rfl, ↓bt1 n00, ↓bt2 n00, ↓bf1 n10, ↓bf2 n10, ↓an_sz0, ↓an_sz1, ↓an_sz2, ↓an_sz3, ↓an_sz4, ↓an_ri, ↓an_rb0, ↓an_rb1, ↓an_b0, ↓an_b1, true_and, ↓ai_0s, ↓al_0s, ↓av_0s, ↓aq_0s, ↓ai_1s, ↓al_1s, ↓av_1s, ↓aq_1s, ↓ai_2s, ↓al_2s, ↓av_2s, ↓aq_2s, ↓ai_3s, ↓al_3s, ↓av_3s, ↓aq_3s, ↓ai_4s, ↓al_4s, ↓av_4s, ↓aq_4s, ↓ai_5s, ↓al_5s, ↓av_5s, ↓aq_5s, ↓ai_6s, ↓al_6s, ↓av_6s, ↓aq_6s, ↓ai_7s, ↓al_7s, ↓av_7s, ↓aq_7s, ↓an_l4, ↓bk_9030, ↓kp_9030_35, ↓bf1 hc0, ↓bf2 hc0, ↓an_t hc1, ↓an_rv hc1, ↓bt1 hc2, ↓bt2 hc2]
      exact hs
    · replace hs := bW_f hs hc2
      simp (implicitDefEqProofs := false) only [↓hG, ↓hJf, ↓px_vc, ↓px_ex, ↓px_jp, ↓rq_gi_0, ↓rq_gi_S, ↓rq_gl_0, ↓rq_gl_S, ↓rq_gr_0, ↓rq_gr_S, ↓rq_s1_0, ↓rq_s1_1, ↓rq_s1_S, ↓rq_s2_0, ↓rq_s2_1, ↓rq_s2_S, ↓rq_nl_n, ↓rq_nl_i, ↓rq_nl_l, ↓rq_nl_r, ↓rq_i1_s, ↓rq_l1_s, ↓r1_s, ↓rq_q1_s, ↓rq_i2_s, ↓rq_l2_s, ↓rq_il_s, ↓rq_d0_s, ↓rq_d1_i, ↓rq_d1_r, ↓rq_d2_l, ↓rq_d2_ii, ↓rq_d2_ir, ↓px_pop, ↓px_sp, ↓px_rd, ↓px_rf, ↓pn_xf, ↓rq_pt_0, ↓rq_pt_1, ↓rq_pt_2, ↓rq_pt_3, ↓px_sw, ↓pn_SW, ↓px_ma, ↓reduceIte, Nat.reduceEqDiff, Nat.reduceAdd, Nat.reduceSub, ↓Option.toList_some, ↓Option.toList_none, ↓List.cons_append, ↓List.nil_append, ↓kI_s, ↓kJ_s, ↓kN_s, ↓kO_s, ↓kZ_s, ↓kE_s, ↓an_rfl, ↓bt1 n00, ↓bt2 n00, ↓bf1 n10, ↓bf2 n10, ↓an_sz0, ↓an_sz1, ↓an_sz2, ↓an_sz3, ↓an_sz4, ↓an_ri, ↓an_rb0, ↓an_rb1, ↓an_b0, ↓an_b1, true_and, ↓ai_0s, ↓al_0s, ↓av_0s, ↓aq_0s, ↓ai_1s, ↓al_1s, ↓av_1s, ↓aq_1s, ↓ai_2s, ↓al_2s, ↓av_2s, ↓aq_2s, ↓ai_3s, ↓al_3s, ↓av_3s, ↓aq_3s, ↓ai_4s, ↓al_4s, ↓av_4s, ↓aq_4s, ↓ai_5s, ↓al_5s, ↓av_5s, ↓aq_5s, ↓ai_6s, ↓al_6s, ↓av_6s, ↓aq_6s, ↓ai_7s, ↓al_7s, ↓av_7s, ↓aq_7s, ↓an_l4, ↓bk_9030, ↓kp_9030_35, ↓bf1 hc0, ↓bf2 hc0, ↓an_t hc1, ↓an_rv hc1, ↓bf1 hc2, ↓bf2 hc2]
      exact hs
set_option maxHeartbeats 4000000 in
set_option maxRecDepth 100000 in
theorem mF_9030 {tab : px_T} (hn : px_nd tab) {h : Nat} (hh : 3 ≤ h) {g9030 : px_M → Nat → Int32 → Option (Int32 × px_M)} {g9031 : px_M → Nat → Int32 → Option (Int32 × px_M)} {g9032 : px_M → Nat → Int32 → Option (Int32 × px_M)} (hg9030 : px_Ok tab pn_i9030 (h - 1) (Sg_9030 g9030)) (hg9031 : px_Ok tab pn_i9031 (h - 1) (Sg_9031 g9031)) (hg9032 : px_Ok tab pn_i9032 (h - 1) (Sg_9032 g9032)) : px_Ok tab pn_i9030 h (Sg_9030 (F_9030 tab g9030 g9031 g9032)) := by
  refine px_mth hn (by decide +kernel) (fun av σ k hS => ?_) (fun C hT hC av σ k hS => ?_)
  · obtain ⟨x0, av0, e0, h0⟩ := av_0p hS
    obtain ⟨x1, av1, e1, h1⟩ := ai_1p h0
    obtain ⟨ez, hs⟩ := h1
    subst ez
    subst e1
    subst e0
    exact Nat.le_of_ble_eq_true rfl
  · obtain ⟨x0, av0, e0, h0⟩ := av_0p hS
    obtain ⟨x1, av1, e1, h1⟩ := ai_1p h0
    obtain ⟨ez, hs⟩ := h1
    subst ez
    subst e1
    subst e0
    subst hT
    show px_W C k 0 [some (.inr (.inr (some x0))), some (.inl x1), none, none] [] σ
    refine px_runH (h - 1) ck_9030 [(9031, Sg_9031 g9031)] [(12, kp_9030_12 (fun y0 y1 y2 τ => oW (f_9030_12 (px_tb C) g9030 g9031 g9032 y0 y1 y2 τ) (fun q => k (some (.inl q.1)) q.2)))] 80 4 (some .boolean) rfl rfl hC (px_sp1 (hg9031) px_nosp) (by omega) (px_cut1 (kq_9030_12 (fun y0 y1 y2 τ hq => by exact rl_9030_12 hn (by omega) hC hg9030 hg9031 hg9032 (y2, τ) hq)) px_nocut) (fun G Jf hG hJf => ?_)
    unfold F_9030 at hs
    obtain ⟨hc0, hs⟩ := oW_gx hs
    obtain ⟨q1, hc1, hs⟩ := oW_bx hs
    by_cases hc2 : q1.1 = nI 0
    · replace hs := bW_t hs hc2
      simp (implicitDefEqProofs := false) only [↓hG, ↓hJf, ↓px_vc, ↓px_ex, ↓px_jp, ↓rq_gi_0, ↓rq_gi_S, ↓rq_gl_0, ↓rq_gl_S, ↓rq_gr_0, ↓rq_gr_S, ↓rq_s1_0, ↓rq_s1_1, ↓rq_s1_S, ↓rq_s2_0, ↓rq_s2_1, ↓rq_s2_S, ↓rq_nl_n, ↓rq_nl_i, ↓rq_nl_l, ↓rq_nl_r, ↓rq_i1_s, ↓rq_l1_s, ↓r1_s, ↓rq_q1_s, ↓rq_i2_s, ↓rq_l2_s, ↓rq_il_s, ↓rq_d0_s, ↓rq_d1_i, ↓rq_d1_r, ↓rq_d2_l, ↓rq_d2_ii, ↓rq_d2_ir, ↓px_pop, ↓px_sp, ↓px_rd, ↓px_rf, ↓pn_xf, ↓rq_pt_0, ↓rq_pt_1, ↓rq_pt_2, ↓rq_pt_3, ↓px_sw, ↓pn_SW, ↓px_ma, ↓reduceIte, Nat.reduceEqDiff, Nat.reduceAdd, Nat.reduceSub, ↓Option.toList_some, ↓Option.toList_none, ↓List.cons_append, ↓List.nil_append, ↓kI_s, ↓kJ_s, ↓kN_s, ↓kO_s, ↓kZ_s, ↓kE_s, ↓an_rfl, ↓bt1 n00, ↓bt2 n00, ↓bf1 n10, ↓bf2 n10, ↓an_sz0, ↓an_sz1, ↓an_sz2, ↓an_sz3, ↓an_sz4, ↓an_ri, ↓an_rb0, ↓an_rb1, ↓an_b0, ↓an_b1, true_and, ↓ai_0s, ↓al_0s, ↓av_0s, ↓aq_0s, ↓ai_1s, ↓al_1s, ↓av_1s, ↓aq_1s, ↓ai_2s, ↓al_2s, ↓av_2s, ↓aq_2s, ↓ai_3s, ↓al_3s, ↓av_3s, ↓aq_3s, ↓ai_4s, ↓al_4s, ↓av_4s, ↓aq_4s, ↓ai_5s, ↓al_5s, ↓av_5s, ↓aq_5s, ↓ai_6s, ↓al_6s, ↓av_6s, ↓aq_6s, ↓ai_7s, ↓al_7s, ↓av_7s, ↓aq_7s, ↓an_l4, ↓bk_9030, ↓Sg_9031, ↓kp_9030_12, ↓an_t hc0, ↓an_rv hc0, ↓oW_e hc1, ↓bt1 hc2, ↓bt2 hc2]
      rw [oW_some] at hs
      exact hs
    · replace hs := bW_f hs hc2
      simp (implicitDefEqProofs := false) only [↓hG, ↓hJf, ↓px_vc, ↓px_ex, ↓px_jp, ↓rq_gi_0, ↓rq_gi_S, ↓rq_gl_0, ↓rq_gl_S, ↓rq_gr_0, ↓rq_gr_S, ↓rq_s1_0, ↓rq_s1_1, ↓rq_s1_S, ↓rq_s2_0, ↓rq_s2_1, ↓rq_s2_S, ↓rq_nl_n, ↓rq_nl_i, ↓rq_nl_l, ↓rq_nl_r, ↓rq_i1_s, ↓rq_l1_s, ↓r1_s, ↓rq_q1_s, ↓rq_i2_s, ↓rq_l2_s, ↓rq_il_s, ↓rq_d0_s, ↓rq_d1_i, ↓rq_d1_r, ↓rq_d2_l, ↓rq_d2_ii, ↓rq_d2_ir, ↓px_pop, ↓px_sp, ↓px_rd, ↓px_rf, ↓pn_xf, ↓rq_pt_0, ↓rq_pt_1, ↓rq_pt_2, ↓rq_pt_3, ↓px_sw, ↓pn_SW, ↓px_ma, ↓reduceIte, Nat.reduceEqDiff, Nat.reduceAdd, Nat.reduceSub, ↓Option.toList_some, ↓Option.toList_none, ↓List.cons_append, ↓List.nil_append, ↓kI_s, ↓kJ_s, ↓kN_s, ↓kO_s, ↓kZ_s, ↓kE_s, ↓an_rfl, ↓bt1 n00, ↓bt2 n00, ↓bf1 n10, ↓bf2 n10, ↓an_sz0, ↓an_sz1, ↓an_sz2, ↓an_sz3, ↓an_sz4, ↓an_ri, ↓an_rb0, ↓an_rb1, ↓an_b0, ↓an_b1, true_and, ↓ai_0s, ↓al_0s, ↓av_0s, ↓aq_0s, ↓ai_1s, ↓al_1s, ↓av_1s, ↓aq_1s, ↓ai_2s, ↓al_2s, ↓av_2s, ↓aq_2s, ↓ai_3s, ↓al_3s, ↓av_3s, ↓aq_3s, ↓ai_4s, ↓al_4s, ↓av_4s, ↓aq_4s, ↓ai_5s, ↓al_5s, ↓av_5s, ↓aq_5s, ↓ai_6s, ↓al_6s, ↓av_6s, ↓aq_6s, ↓ai_7s, ↓al_7s, ↓av_7s, ↓aq_7s, ↓an_l4, ↓bk_9030, ↓Sg_9031, ↓kp_9030_12, ↓an_t hc0, ↓an_rv hc0, ↓oW_e hc1, ↓bf1 hc2, ↓bf2 hc2]
      exact hs
/-- NoThree$Reader.readTerm(I)Z -/
noncomputable def f_9031_56 (tab : px_T) (g9030 : px_M → Nat → Int32 → Option (Int32 × px_M)) (g9031 : px_M → Nat → Int32 → Option (Int32 × px_M)) (g9032 : px_M → Nat → Int32 → Option (Int32 × px_M)) (σ : px_M) (x0 : Nat) (x1 : Int32) (x2 : Int32) : Option ((Int32 × px_M) ⊕ (Int32 × px_M)) := some (.inl (((x2 + (nI 1)), σ)))
noncomputable def F_9031_12 (tab : px_T) (g9030 : px_M → Nat → Int32 → Option (Int32 × px_M)) (g9031 : px_M → Nat → Int32 → Option (Int32 × px_M)) (g9032 : px_M → Nat → Int32 → Option (Int32 × px_M)) (x0 : Nat) (x1 : Int32) (x2 : Int32) (σ : px_M) : Option ((Int32 × px_M) ⊕ (Int32 × px_M)) := if (nI 900) ≤ x2 then (some (.inr (((nI 1), σ)))) else (gd (px_obj (px_lay tab x0) 9) (bn (((σ).1 x0 9) = (nI 4042)) (some (.inr (((nI 1), σ)))) ((f_9015 tab σ x0).bind fun q1 => (g9032 q1 x0 x1).bind fun q2 => bn (q2.1 = nI 0) ((((q2.2).2.2 x0 3)).bind fun n3 => gd (px_obj (px_lay tab n3) 1) ((((q2.2).2.2 n3 1)).bind fun n4 => gd (px_obj (px_lay tab n4) 10) ((f_10004 tab q2.2 n4 ((nI 2002))).bind fun q5 => f_9031_56 tab g9030 g9031 g9032 q5 x0 x1 x2))) (some (.inr (((nI 0), q2.2)))))))
noncomputable def f_9031_12 (tab : px_T) (g9030 : px_M → Nat → Int32 → Option (Int32 × px_M)) (g9031 : px_M → Nat → Int32 → Option (Int32 × px_M)) (g9032 : px_M → Nat → Int32 → Option (Int32 × px_M)) (x0 : Nat) (x1 : Int32) (x2 : Int32) (σ : px_M) : Option (Int32 × px_M) := lpO (fun s : Int32 × px_M => F_9031_12 tab g9030 g9031 g9032 x0 x1 s.1 s.2) (x2, σ)
theorem f_9031_12_eq (tab : px_T) (g9030 : px_M → Nat → Int32 → Option (Int32 × px_M)) (g9031 : px_M → Nat → Int32 → Option (Int32 × px_M)) (g9032 : px_M → Nat → Int32 → Option (Int32 × px_M)) (x0 : Nat) (x1 : Int32) (x2 : Int32) (σ : px_M) : f_9031_12 tab g9030 g9031 g9032 x0 x1 x2 σ = (F_9031_12 tab g9030 g9031 g9032 x0 x1 x2 σ).bind (Sum.elim (fun s => f_9031_12 tab g9030 g9031 g9032 x0 x1 s.1 s.2) some) := lpO_eq _ _
noncomputable def F_9031 (tab : px_T) (g9030 : px_M → Nat → Int32 → Option (Int32 × px_M)) (g9031 : px_M → Nat → Int32 → Option (Int32 × px_M)) (g9032 : px_M → Nat → Int32 → Option (Int32 × px_M)) (σ : px_M) (x0 : Nat) (x1 : Int32) : Option (Int32 × px_M) := gd (px_obj (px_lay tab x0) 9) ((g9032 σ x0 x1).bind fun q1 => bn (q1.1 = nI 0) (f_9031_12 tab g9030 g9031 g9032 x0 x1 ((nI 0)) q1.2) (some (((nI 0), q1.2))))
def kp_9031_56 (Q : Nat → Int32 → Int32 → px_M → Prop) : px_P := fun ls st τ => st = [] ∧ kN ls (fun x0 ls => kI ls (fun x1 ls => kI ls (fun x2 ls => kE ls (Q x0 x1 x2 τ))))
theorem kq_9031_56 {C : px_C} {k : Option px_V → px_M → Prop} {Q : Nat → Int32 → Int32 → px_M → Prop} (H : ∀ (x0 : Nat) (x1 : Int32) (x2 : Int32) (τ : px_M), Q x0 x1 x2 τ → px_W C k 56 [some (.inr (.inr (some x0))), some (.inl x1), some (.inl x2)] [] τ) : ∀ ls st τ, kp_9031_56 Q ls st τ → px_W C k 56 ls st τ := by
  intro ls st τ hz
  obtain ⟨ez, h0⟩ := hz
  obtain ⟨x0, l0, e0, h1⟩ := kN_sp h0
  obtain ⟨x1, l1, e1, h2⟩ := kI_sp h1
  obtain ⟨x2, l2, e2, h3⟩ := kI_sp h2
  obtain ⟨ey, hy⟩ := kE_sp h3
  subst ez
  subst ey
  subst e2
  subst e1
  subst e0
  exact H x0 x1 x2 τ hy
def kp_9031_12 (Q : Nat → Int32 → Int32 → px_M → Prop) : px_P := fun ls st τ => st = [] ∧ kN ls (fun x0 ls => kI ls (fun x1 ls => kI ls (fun x2 ls => kE ls (Q x0 x1 x2 τ))))
theorem kq_9031_12 {C : px_C} {k : Option px_V → px_M → Prop} {Q : Nat → Int32 → Int32 → px_M → Prop} (H : ∀ (x0 : Nat) (x1 : Int32) (x2 : Int32) (τ : px_M), Q x0 x1 x2 τ → px_W C k 12 [some (.inr (.inr (some x0))), some (.inl x1), some (.inl x2)] [] τ) : ∀ ls st τ, kp_9031_12 Q ls st τ → px_W C k 12 ls st τ := by
  intro ls st τ hz
  obtain ⟨ez, h0⟩ := hz
  obtain ⟨x0, l0, e0, h1⟩ := kN_sp h0
  obtain ⟨x1, l1, e1, h2⟩ := kI_sp h1
  obtain ⟨x2, l2, e2, h3⟩ := kI_sp h2
  obtain ⟨ey, hy⟩ := kE_sp h3
  subst ez
  subst ey
  subst e2
  subst e1
  subst e0
  exact H x0 x1 x2 τ hy
set_option maxHeartbeats 4000000 in
set_option maxRecDepth 100000 in
theorem rl_9031_56 {C : px_C} (hn : px_nd (px_tb C)) {h : Nat} (hh : 3 ≤ h) (hC : px_ok C pn_i9031 h) {g9030 : px_M → Nat → Int32 → Option (Int32 × px_M)} {g9031 : px_M → Nat → Int32 → Option (Int32 × px_M)} {g9032 : px_M → Nat → Int32 → Option (Int32 × px_M)} (hg9030 : px_Ok (px_tb C) pn_i9030 (h - 1) (Sg_9030 g9030)) (hg9031 : px_Ok (px_tb C) pn_i9031 (h - 1) (Sg_9031 g9031)) (hg9032 : px_Ok (px_tb C) pn_i9032 (h - 1) (Sg_9032 g9032)) {k : Option px_V → px_M → Prop} {x0 : Nat} {x1 : Int32} {x2 : Int32} {σ : px_M} (hs : oW (f_9031_56 (px_tb C) g9030 g9031 g9032 σ x0 x1 x2) (Sum.elim (fun s : Int32 × px_M => px_W C k 12 [some (.inr (.inr (some x0))), some (.inl x1), some (.inl s.1)] [] s.2) (fun q => k (some (.inl q.1)) q.2))) : px_W C k 56 [some (.inr (.inr (some x0))), some (.inl x1), some (.inl x2)] [] σ := by
  refine px_runH (h - 1) ck_9031 [] [(12, kp_9031_12 (fun y0 y1 y2 τ => y0 = x0 ∧ y1 = x1 ∧ (fun s : Int32 × px_M => px_W C k 12 [some (.inr (.inr (some x0))), some (.inl x1), some (.inl s.1)] [] s.2) (y2, τ)))] 80 3 (some .boolean) rfl rfl hC px_nosp (by omega) (px_cut1 (kq_9031_12 (fun y0 y1 y2 τ hq => by obtain ⟨rfl, rfl, hq⟩ := hq; exact hq)) px_nocut) (fun G Jf hG hJf => ?_)
  unfold f_9031_56 at hs
  simp (implicitDefEqProofs := false) only [↓hG, ↓hJf, ↓px_vc, ↓px_ex, ↓px_jp, ↓rq_gi_0, ↓rq_gi_S, ↓rq_gl_0, ↓rq_gl_S, ↓rq_gr_0, ↓rq_gr_S, ↓rq_s1_0, ↓rq_s1_1, ↓rq_s1_S, ↓rq_s2_0, ↓rq_s2_1, ↓rq_s2_S, ↓rq_nl_n, ↓rq_nl_i, ↓rq_nl_l, ↓rq_nl_r, ↓rq_i1_s, ↓rq_l1_s, ↓r1_s, ↓rq_q1_s, ↓rq_i2_s, ↓rq_l2_s, ↓rq_il_s, ↓rq_d0_s, ↓rq_d1_i, ↓rq_d1_r, ↓rq_d2_l, ↓rq_d2_ii, ↓rq_d2_ir, ↓px_pop, ↓px_sp, ↓px_rd, ↓px_rf, ↓pn_xf, ↓rq_pt_0, ↓rq_pt_1, ↓rq_pt_2, ↓rq_pt_3, ↓px_sw, ↓pn_SW, ↓px_ma, ↓reduceIte, Nat.reduceEqDiff, Nat.reduceAdd, Nat.reduceSub, ↓Option.toList_some, ↓Option.toList_none, ↓List.cons_append, ↓List.nil_append, ↓kI_s, ↓kJ_s, ↓kN_s, ↓kO_s, ↓kZ_s, ↓kE_s, ↓an_rfl, ↓bt1 n00, ↓bt2 n00, ↓bf1 n10, ↓bf2 n10, ↓an_sz0, ↓an_sz1, ↓an_sz2, ↓an_sz3, ↓an_sz4, ↓an_ri, ↓an_rb0, ↓an_rb1, ↓an_b0, ↓an_b1, true_and, ↓ai_0s, ↓al_0s, ↓av_0s, ↓aq_0s, ↓ai_1s, ↓al_1s, ↓av_1s, ↓aq_1s, ↓ai_2s, ↓al_2s, ↓av_2s, ↓aq_2s, ↓ai_3s, ↓al_3s, ↓av_3s, ↓aq_3s, ↓ai_4s, ↓al_4s, ↓av_4s, ↓aq_4s, ↓ai_5s, ↓al_5s, ↓av_5s, ↓aq_5s, ↓ai_6s, ↓al_6s, ↓av_6s, ↓aq_6s, ↓ai_7s, ↓al_7s, ↓av_7s, ↓aq_7s, ↓an_l3, ↓bk_9031, ↓kp_9031_12]
  rw [oW_some] at hs
  exact hs
set_option maxHeartbeats 4000000 in
set_option maxRecDepth 100000 in
theorem rl_9031_12 {C : px_C} (hn : px_nd (px_tb C)) {h : Nat} (hh : 3 ≤ h) (hC : px_ok C pn_i9031 h) {g9030 : px_M → Nat → Int32 → Option (Int32 × px_M)} {g9031 : px_M → Nat → Int32 → Option (Int32 × px_M)} {g9032 : px_M → Nat → Int32 → Option (Int32 × px_M)} (hg9030 : px_Ok (px_tb C) pn_i9030 (h - 1) (Sg_9030 g9030)) (hg9031 : px_Ok (px_tb C) pn_i9031 (h - 1) (Sg_9031 g9031)) (hg9032 : px_Ok (px_tb C) pn_i9032 (h - 1) (Sg_9032 g9032)) {k : Option px_V → px_M → Prop} {x0 : Nat} {x1 : Int32} : ∀ s : Int32 × px_M, oW (f_9031_12 (px_tb C) g9030 g9031 g9032 x0 x1 s.1 s.2) (fun q => k (some (.inl q.1)) q.2) → (fun s : Int32 × px_M => px_W C k 12 [some (.inr (.inr (some x0))), some (.inl x1), some (.inl s.1)] [] s.2) s := by
  intro s h0
  refine lpO_sound (P := (fun s : Int32 × px_M => px_W C k 12 [some (.inr (.inr (some x0))), some (.inl x1), some (.inl s.1)] [] s.2)) (fun s hs => ?_) h0
  obtain ⟨x2, σ⟩ := s
  refine px_runH (h - 1) ck_9031 [(9015, Sg_9015 (f_9015 (px_tb C))), (9032, Sg_9032 g9032), (10004, Sg_10004 (f_10004 (px_tb C)))] [(56, kp_9031_56 (fun y0 y1 y2 τ => y0 = x0 ∧ y1 = x1 ∧ oW (f_9031_56 (px_tb C) g9030 g9031 g9032 τ y0 y1 y2) (Sum.elim (fun s : Int32 × px_M => px_W C k 12 [some (.inr (.inr (some x0))), some (.inl x1), some (.inl s.1)] [] s.2) (fun q => k (some (.inl q.1)) q.2))))] 80 3 (some .boolean) rfl rfl hC (px_sp1 (mf_9015 hn (by omega)) (px_sp1 (hg9032) (px_sp1 (mf_10004 hn (by omega)) px_nosp))) (by omega) (px_cut1 (kq_9031_56 (fun y0 y1 y2 τ hq => by obtain ⟨rfl, rfl, hq⟩ := hq; exact rl_9031_56 hn (by omega) hC hg9030 hg9031 hg9032  hq)) px_nocut) (fun G Jf hG hJf => ?_)
  replace hs : oW (F_9031_12 (px_tb C) g9030 g9031 g9032 x0 x1 x2 σ) _ := hs
  unfold F_9031_12 at hs
  by_cases hc0 : (nI 900) ≤ x2
  · replace hs := oW_t hs hc0
    simp (implicitDefEqProofs := false) only [↓hG, ↓hJf, ↓px_vc, ↓px_ex, ↓px_jp, ↓rq_gi_0, ↓rq_gi_S, ↓rq_gl_0, ↓rq_gl_S, ↓rq_gr_0, ↓rq_gr_S, ↓rq_s1_0, ↓rq_s1_1, ↓rq_s1_S, ↓rq_s2_0, ↓rq_s2_1, ↓rq_s2_S, ↓rq_nl_n, ↓rq_nl_i, ↓rq_nl_l, ↓rq_nl_r, ↓rq_i1_s, ↓rq_l1_s, ↓r1_s, ↓rq_q1_s, ↓rq_i2_s, ↓rq_l2_s, ↓rq_il_s, ↓rq_d0_s, ↓rq_d1_i, ↓rq_d1_r, ↓rq_d2_l, ↓rq_d2_ii, ↓rq_d2_ir, ↓px_pop, ↓px_sp, ↓px_rd, ↓px_rf, ↓pn_xf, ↓rq_pt_0, ↓rq_pt_1, ↓rq_pt_2, ↓rq_pt_3, ↓px_sw, ↓pn_SW, ↓px_ma, ↓reduceIte, Nat.reduceEqDiff, Nat.reduceAdd, Nat.reduceSub, ↓Option.toList_some, ↓Option.toList_none, ↓List.cons_append, ↓List.nil_append, ↓kI_s, ↓kJ_s, ↓kN_s, ↓kO_s, ↓kZ_s, ↓kE_s, ↓an_rfl, ↓bt1 n00, ↓bt2 n00, ↓bf1 n10, ↓bf2 n10, ↓an_sz0, ↓an_sz1, ↓an_sz2, ↓an_sz3, ↓an_sz4, ↓an_ri, ↓an_rb0, ↓an_rb1, ↓an_b0, ↓an_b1, true_and, ↓ai_0s, ↓al_0s, ↓av_0s, ↓aq_0s, ↓ai_1s, ↓al_1s, ↓av_1s, ↓aq_1s, ↓ai_2s, ↓al_2s, ↓av_2s, ↓aq_2s, ↓ai_3s, ↓al_3s, ↓av_3s, ↓aq_3s, ↓ai_4s, ↓al_4s, ↓av_4s, ↓aq_4s, ↓ai_5s, ↓al_5s, ↓av_5s, ↓aq_5s, ↓ai_6s, ↓al_6s, ↓av_6s, ↓aq_6s, ↓ai_7s, ↓al_7s, ↓av_7s, ↓aq_7s, ↓an_l3, ↓bk_9031, ↓Sg_9015, ↓Sg_9032, ↓Sg_10004, ↓kp_9031_56, ↓bt1 hc0, ↓bt2 hc0]
    rw [oW_some] at hs
    exact hs
  · replace hs := oW_f hs hc0
    obtain ⟨hc1, hs⟩ := oW_gx hs
    by_cases hc2 : ((σ).1 x0 9) = (nI 4042)
    · replace hs := bW_t hs hc2
      obtain ⟨q1, hc3, hs⟩ := oW_bx hs
      obtain ⟨q2, hc4, hs⟩ := oW_bx hs
      by_cases hc5 : q2.1 = nI 0
      · replace hs := bW_t hs hc5
        simp (implicitDefEqProofs := false) only [↓hG, ↓hJf, ↓px_vc, ↓px_ex, ↓px_jp, ↓rq_gi_0, ↓rq_gi_S, ↓rq_gl_0, ↓rq_gl_S, ↓rq_gr_0, ↓rq_gr_S, ↓rq_s1_0, ↓rq_s1_1, ↓rq_s1_S, ↓rq_s2_0, ↓rq_s2_1, ↓rq_s2_S, ↓rq_nl_n, ↓rq_nl_i, ↓rq_nl_l, ↓rq_nl_r, ↓rq_i1_s, ↓rq_l1_s, ↓r1_s, ↓rq_q1_s, ↓rq_i2_s, ↓rq_l2_s, ↓rq_il_s, ↓rq_d0_s, ↓rq_d1_i, ↓rq_d1_r, ↓rq_d2_l, ↓rq_d2_ii, ↓rq_d2_ir, ↓px_pop, ↓px_sp, ↓px_rd, ↓px_rf, ↓pn_xf, ↓rq_pt_0, ↓rq_pt_1, ↓rq_pt_2, ↓rq_pt_3, ↓px_sw, ↓pn_SW, ↓px_ma, ↓reduceIte, Nat.reduceEqDiff, Nat.reduceAdd, Nat.reduceSub, ↓Option.toList_some, ↓Option.toList_none, ↓List.cons_append, ↓List.nil_append, ↓kI_s, ↓kJ_s, ↓kN_s, ↓kO_s, ↓kZ_s, ↓kE_s, ↓an_rfl, ↓bt1 n00, ↓bt2 n00, ↓bf1 n10, ↓bf2 n10, ↓an_sz0, ↓an_sz1, ↓an_sz2, ↓an_sz3, ↓an_sz4, ↓an_ri, ↓an_rb0, ↓an_rb1, ↓an_b0, ↓an_b1, true_and, ↓ai_0s, ↓al_0s, ↓av_0s, ↓aq_0s, ↓ai_1s, ↓al_1s, ↓av_1s, ↓aq_1s, ↓ai_2s, ↓al_2s, ↓av_2s, ↓aq_2s, ↓ai_3s, ↓al_3s, ↓av_3s, ↓aq_3s, ↓ai_4s, ↓al_4s, ↓av_4s, ↓aq_4s, ↓ai_5s, ↓al_5s, ↓av_5s, ↓aq_5s, ↓ai_6s, ↓al_6s, ↓av_6s, ↓aq_6s, ↓ai_7s, ↓al_7s, ↓av_7s, ↓aq_7s, ↓an_l3, ↓bk_9031, ↓Sg_9015, ↓Sg_9032, ↓Sg_10004, ↓kp_9031_56, ↓bf1 hc0, ↓bf2 hc0, ↓an_t hc1, ↓an_rv hc1, ↓bt1 hc2, ↓bt2 hc2, ↓oW_e hc3, ↓oW_e hc4, ↓bt1 hc5, ↓bt2 hc5]
        rw [oW_some] at hs
        exact hs
      · replace hs := bW_f hs hc5
        obtain ⟨n3, hc6, hs⟩ := oW_bx hs
        obtain ⟨hc7, hs⟩ := oW_gx hs
        obtain ⟨n4, hc8, hs⟩ := oW_bx hs
        obtain ⟨hc9, hs⟩ := oW_gx hs
        obtain ⟨q5, hc10, hs⟩ := oW_bx hs
        simp (implicitDefEqProofs := false) only [↓hG, ↓hJf, ↓px_vc, ↓px_ex, ↓px_jp, ↓rq_gi_0, ↓rq_gi_S, ↓rq_gl_0, ↓rq_gl_S, ↓rq_gr_0, ↓rq_gr_S, ↓rq_s1_0, ↓rq_s1_1, ↓rq_s1_S, ↓rq_s2_0, ↓rq_s2_1, ↓rq_s2_S, ↓rq_nl_n, ↓rq_nl_i, ↓rq_nl_l, ↓rq_nl_r, ↓rq_i1_s, ↓rq_l1_s, ↓r1_s, ↓rq_q1_s, ↓rq_i2_s, ↓rq_l2_s, ↓rq_il_s, ↓rq_d0_s, ↓rq_d1_i, ↓rq_d1_r, ↓rq_d2_l, ↓rq_d2_ii, ↓rq_d2_ir, ↓px_pop, ↓px_sp, ↓px_rd, ↓px_rf, ↓pn_xf, ↓rq_pt_0, ↓rq_pt_1, ↓rq_pt_2, ↓rq_pt_3, ↓px_sw, ↓pn_SW, ↓px_ma, ↓reduceIte, Nat.reduceEqDiff, Nat.reduceAdd, Nat.reduceSub, ↓Option.toList_some, ↓Option.toList_none, ↓List.cons_append, ↓List.nil_append, ↓kI_s, ↓kJ_s, ↓kN_s, ↓kO_s, ↓kZ_s, ↓kE_s, ↓an_rfl, ↓bt1 n00, ↓bt2 n00, ↓bf1 n10, ↓bf2 n10, ↓an_sz0, ↓an_sz1, ↓an_sz2, ↓an_sz3, ↓an_sz4, ↓an_ri, ↓an_rb0, ↓an_rb1, ↓an_b0, ↓an_b1, true_and, ↓ai_0s, ↓al_0s, ↓av_0s, ↓aq_0s, ↓ai_1s, ↓al_1s, ↓av_1s, ↓aq_1s, ↓ai_2s, ↓al_2s, ↓av_2s, ↓aq_2s, ↓ai_3s, ↓al_3s, ↓av_3s, ↓aq_3s, ↓ai_4s, ↓al_4s, ↓av_4s, ↓aq_4s, ↓ai_5s, ↓al_5s, ↓av_5s, ↓aq_5s, ↓ai_6s, ↓al_6s, ↓av_6s, ↓aq_6s, ↓ai_7s, ↓al_7s, ↓av_7s, ↓aq_7s, ↓an_l3, ↓bk_9031, ↓Sg_9015, ↓Sg_9032, ↓Sg_10004, ↓kp_9031_56, ↓bf1 hc0, ↓bf2 hc0, ↓an_t hc1, ↓an_rv hc1, ↓bt1 hc2, ↓bt2 hc2, ↓oW_e hc3, ↓oW_e hc4, ↓bf1 hc5, ↓bf2 hc5, ↓r1_e hc6, ↓av_0e hc6, ↓av_1e hc6, ↓av_2e hc6, ↓av_3e hc6, ↓an_t hc7, ↓an_rv hc7, ↓an_rvo hc6 hc7, ↓r1_e hc8, ↓av_0e hc8, ↓av_1e hc8, ↓av_2e hc8, ↓av_3e hc8, ↓an_t hc9, ↓an_rv hc9, ↓an_rvo hc8 hc9, ↓oW_e hc10]
        exact hs
    · replace hs := bW_f hs hc2
      simp (implicitDefEqProofs := false) only [↓hG, ↓hJf, ↓px_vc, ↓px_ex, ↓px_jp, ↓rq_gi_0, ↓rq_gi_S, ↓rq_gl_0, ↓rq_gl_S, ↓rq_gr_0, ↓rq_gr_S, ↓rq_s1_0, ↓rq_s1_1, ↓rq_s1_S, ↓rq_s2_0, ↓rq_s2_1, ↓rq_s2_S, ↓rq_nl_n, ↓rq_nl_i, ↓rq_nl_l, ↓rq_nl_r, ↓rq_i1_s, ↓rq_l1_s, ↓r1_s, ↓rq_q1_s, ↓rq_i2_s, ↓rq_l2_s, ↓rq_il_s, ↓rq_d0_s, ↓rq_d1_i, ↓rq_d1_r, ↓rq_d2_l, ↓rq_d2_ii, ↓rq_d2_ir, ↓px_pop, ↓px_sp, ↓px_rd, ↓px_rf, ↓pn_xf, ↓rq_pt_0, ↓rq_pt_1, ↓rq_pt_2, ↓rq_pt_3, ↓px_sw, ↓pn_SW, ↓px_ma, ↓reduceIte, Nat.reduceEqDiff, Nat.reduceAdd, Nat.reduceSub, ↓Option.toList_some, ↓Option.toList_none, ↓List.cons_append, ↓List.nil_append, ↓kI_s, ↓kJ_s, ↓kN_s, ↓kO_s, ↓kZ_s, ↓kE_s, ↓an_rfl, ↓bt1 n00, ↓bt2 n00, ↓bf1 n10, ↓bf2 n10, ↓an_sz0, ↓an_sz1, ↓an_sz2, ↓an_sz3, ↓an_sz4, ↓an_ri, ↓an_rb0, ↓an_rb1, ↓an_b0, ↓an_b1, true_and, ↓ai_0s, ↓al_0s, ↓av_0s, ↓aq_0s, ↓ai_1s, ↓al_1s, ↓av_1s, ↓aq_1s, ↓ai_2s, ↓al_2s, ↓av_2s, ↓aq_2s, ↓ai_3s, ↓al_3s, ↓av_3s, ↓aq_3s, ↓ai_4s, ↓al_4s, ↓av_4s, ↓aq_4s, ↓ai_5s, ↓al_5s, ↓av_5s, ↓aq_5s, ↓ai_6s, ↓al_6s, ↓av_6s, ↓aq_6s, ↓ai_7s, ↓al_7s, ↓av_7s, ↓aq_7s, ↓an_l3, ↓bk_9031, ↓Sg_9015, ↓Sg_9032, ↓Sg_10004, ↓kp_9031_56, ↓bf1 hc0, ↓bf2 hc0, ↓an_t hc1, ↓an_rv hc1, ↓bf1 hc2, ↓bf2 hc2]
      rw [oW_some] at hs
      exact hs
set_option maxHeartbeats 4000000 in
set_option maxRecDepth 100000 in
theorem mF_9031 {tab : px_T} (hn : px_nd tab) {h : Nat} (hh : 3 ≤ h) {g9030 : px_M → Nat → Int32 → Option (Int32 × px_M)} {g9031 : px_M → Nat → Int32 → Option (Int32 × px_M)} {g9032 : px_M → Nat → Int32 → Option (Int32 × px_M)} (hg9030 : px_Ok tab pn_i9030 (h - 1) (Sg_9030 g9030)) (hg9031 : px_Ok tab pn_i9031 (h - 1) (Sg_9031 g9031)) (hg9032 : px_Ok tab pn_i9032 (h - 1) (Sg_9032 g9032)) : px_Ok tab pn_i9031 h (Sg_9031 (F_9031 tab g9030 g9031 g9032)) := by
  refine px_mth hn (by decide +kernel) (fun av σ k hS => ?_) (fun C hT hC av σ k hS => ?_)
  · obtain ⟨x0, av0, e0, h0⟩ := av_0p hS
    obtain ⟨x1, av1, e1, h1⟩ := ai_1p h0
    obtain ⟨ez, hs⟩ := h1
    subst ez
    subst e1
    subst e0
    exact Nat.le_of_ble_eq_true rfl
  · obtain ⟨x0, av0, e0, h0⟩ := av_0p hS
    obtain ⟨x1, av1, e1, h1⟩ := ai_1p h0
    obtain ⟨ez, hs⟩ := h1
    subst ez
    subst e1
    subst e0
    subst hT
    show px_W C k 0 [some (.inr (.inr (some x0))), some (.inl x1), none] [] σ
    refine px_runH (h - 1) ck_9031 [(9032, Sg_9032 g9032)] [(12, kp_9031_12 (fun y0 y1 y2 τ => oW (f_9031_12 (px_tb C) g9030 g9031 g9032 y0 y1 y2 τ) (fun q => k (some (.inl q.1)) q.2)))] 80 3 (some .boolean) rfl rfl hC (px_sp1 (hg9032) px_nosp) (by omega) (px_cut1 (kq_9031_12 (fun y0 y1 y2 τ hq => by exact rl_9031_12 hn (by omega) hC hg9030 hg9031 hg9032 (y2, τ) hq)) px_nocut) (fun G Jf hG hJf => ?_)
    unfold F_9031 at hs
    obtain ⟨hc0, hs⟩ := oW_gx hs
    obtain ⟨q1, hc1, hs⟩ := oW_bx hs
    by_cases hc2 : q1.1 = nI 0
    · replace hs := bW_t hs hc2
      simp (implicitDefEqProofs := false) only [↓hG, ↓hJf, ↓px_vc, ↓px_ex, ↓px_jp, ↓rq_gi_0, ↓rq_gi_S, ↓rq_gl_0, ↓rq_gl_S, ↓rq_gr_0, ↓rq_gr_S, ↓rq_s1_0, ↓rq_s1_1, ↓rq_s1_S, ↓rq_s2_0, ↓rq_s2_1, ↓rq_s2_S, ↓rq_nl_n, ↓rq_nl_i, ↓rq_nl_l, ↓rq_nl_r, ↓rq_i1_s, ↓rq_l1_s, ↓r1_s, ↓rq_q1_s, ↓rq_i2_s, ↓rq_l2_s, ↓rq_il_s, ↓rq_d0_s, ↓rq_d1_i, ↓rq_d1_r, ↓rq_d2_l, ↓rq_d2_ii, ↓rq_d2_ir, ↓px_pop, ↓px_sp, ↓px_rd, ↓px_rf, ↓pn_xf, ↓rq_pt_0, ↓rq_pt_1, ↓rq_pt_2, ↓rq_pt_3, ↓px_sw, ↓pn_SW, ↓px_ma, ↓reduceIte, Nat.reduceEqDiff, Nat.reduceAdd, Nat.reduceSub, ↓Option.toList_some, ↓Option.toList_none, ↓List.cons_append, ↓List.nil_append, ↓kI_s, ↓kJ_s, ↓kN_s, ↓kO_s, ↓kZ_s, ↓kE_s, ↓an_rfl, ↓bt1 n00, ↓bt2 n00, ↓bf1 n10, ↓bf2 n10, ↓an_sz0, ↓an_sz1, ↓an_sz2, ↓an_sz3, ↓an_sz4, ↓an_ri, ↓an_rb0, ↓an_rb1, ↓an_b0, ↓an_b1, true_and, ↓ai_0s, ↓al_0s, ↓av_0s, ↓aq_0s, ↓ai_1s, ↓al_1s, ↓av_1s, ↓aq_1s, ↓ai_2s, ↓al_2s, ↓av_2s, ↓aq_2s, ↓ai_3s, ↓al_3s, ↓av_3s, ↓aq_3s, ↓ai_4s, ↓al_4s, ↓av_4s, ↓aq_4s, ↓ai_5s, ↓al_5s, ↓av_5s, ↓aq_5s, ↓ai_6s, ↓al_6s, ↓av_6s, ↓aq_6s, ↓ai_7s, ↓al_7s, ↓av_7s, ↓aq_7s, ↓an_l3, ↓bk_9031, ↓Sg_9032, ↓kp_9031_12, ↓an_t hc0, ↓an_rv hc0, ↓oW_e hc1, ↓bt1 hc2, ↓bt2 hc2]
      rw [oW_some] at hs
      exact hs
    · replace hs := bW_f hs hc2
      simp (implicitDefEqProofs := false) only [↓hG, ↓hJf, ↓px_vc, ↓px_ex, ↓px_jp, ↓rq_gi_0, ↓rq_gi_S, ↓rq_gl_0, ↓rq_gl_S, ↓rq_gr_0, ↓rq_gr_S, ↓rq_s1_0, ↓rq_s1_1, ↓rq_s1_S, ↓rq_s2_0, ↓rq_s2_1, ↓rq_s2_S, ↓rq_nl_n, ↓rq_nl_i, ↓rq_nl_l, ↓rq_nl_r, ↓rq_i1_s, ↓rq_l1_s, ↓r1_s, ↓rq_q1_s, ↓rq_i2_s, ↓rq_l2_s, ↓rq_il_s, ↓rq_d0_s, ↓rq_d1_i, ↓rq_d1_r, ↓rq_d2_l, ↓rq_d2_ii, ↓rq_d2_ir, ↓px_pop, ↓px_sp, ↓px_rd, ↓px_rf, ↓pn_xf, ↓rq_pt_0, ↓rq_pt_1, ↓rq_pt_2, ↓rq_pt_3, ↓px_sw, ↓pn_SW, ↓px_ma, ↓reduceIte, Nat.reduceEqDiff, Nat.reduceAdd, Nat.reduceSub, ↓Option.toList_some, ↓Option.toList_none, ↓List.cons_append, ↓List.nil_append, ↓kI_s, ↓kJ_s, ↓kN_s, ↓kO_s, ↓kZ_s, ↓kE_s, ↓an_rfl, ↓bt1 n00, ↓bt2 n00, ↓bf1 n10, ↓bf2 n10, ↓an_sz0, ↓an_sz1, ↓an_sz2, ↓an_sz3, ↓an_sz4, ↓an_ri, ↓an_rb0, ↓an_rb1, ↓an_b0, ↓an_b1, true_and, ↓ai_0s, ↓al_0s, ↓av_0s, ↓aq_0s, ↓ai_1s, ↓al_1s, ↓av_1s, ↓aq_1s, ↓ai_2s, ↓al_2s, ↓av_2s, ↓aq_2s, ↓ai_3s, ↓al_3s, ↓av_3s, ↓aq_3s, ↓ai_4s, ↓al_4s, ↓av_4s, ↓aq_4s, ↓ai_5s, ↓al_5s, ↓av_5s, ↓aq_5s, ↓ai_6s, ↓al_6s, ↓av_6s, ↓aq_6s, ↓ai_7s, ↓al_7s, ↓av_7s, ↓aq_7s, ↓an_l3, ↓bk_9031, ↓Sg_9032, ↓kp_9031_12, ↓an_t hc0, ↓an_rv hc0, ↓oW_e hc1, ↓bf1 hc2, ↓bf2 hc2]
      exact hs
/-- NoThree$Reader.readAtom(I)Z -/
noncomputable def f_9032_90 (tab : px_T) (g9030 : px_M → Nat → Int32 → Option (Int32 × px_M)) (g9031 : px_M → Nat → Int32 → Option (Int32 × px_M)) (g9032 : px_M → Nat → Int32 → Option (Int32 × px_M)) (σ : px_M) : Option (Int32 × px_M) := some (((nI 0), σ))
noncomputable def f_9032_66 (tab : px_T) (g9030 : px_M → Nat → Int32 → Option (Int32 × px_M)) (g9031 : px_M → Nat → Int32 → Option (Int32 × px_M)) (g9032 : px_M → Nat → Int32 → Option (Int32 × px_M)) (σ : px_M) (x0 : Nat) (x1 : Int32) : Option (Int32 × px_M) := gd (px_obj (px_lay tab x0) 9) ((g9030 σ x0 ((x1 + (nI 1)))).bind fun q1 => if q1.1 = nI 0 then (f_9032_90 tab g9030 g9031 g9032 q1.2) else ((f_9019 tab q1.2 x0 ((nI 4041))).bind fun q2 => if q2.1 = nI 0 then (f_9032_90 tab g9030 g9031 g9032 q2.2) else (some (((nI 1), q2.2)))))
noncomputable def f_9032_14 (tab : px_T) (g9030 : px_M → Nat → Int32 → Option (Int32 × px_M)) (g9031 : px_M → Nat → Int32 → Option (Int32 × px_M)) (g9032 : px_M → Nat → Int32 → Option (Int32 × px_M)) (σ : px_M) (x0 : Nat) : Option (Int32 × px_M) := gd (px_obj (px_lay tab x0) 9) ((((σ).2.2 x0 3)).bind fun n1 => gd (px_obj (px_lay tab n1) 1) ((((σ).2.2 n1 1)).bind fun n2 => gd (px_obj (px_lay tab n2) 10) ((f_10004 tab σ n2 (((σ).1 x0 9))).bind fun q3 => (f_9015 tab q3 x0).bind fun q4 => some (((nI 1), q4)))))
noncomputable def F_9032 (tab : px_T) (g9030 : px_M → Nat → Int32 → Option (Int32 × px_M)) (g9031 : px_M → Nat → Int32 → Option (Int32 × px_M)) (g9032 : px_M → Nat → Int32 → Option (Int32 × px_M)) (σ : px_M) (x0 : Nat) (x1 : Int32) : Option (Int32 × px_M) := gd (px_obj (px_lay tab x0) 9) ((f_9016 tab σ x0).bind fun r1 => bn (r1 = nI 0) (f_9032_14 tab g9030 g9031 g9032 σ x0) ((f_9017 tab σ x0).bind fun r2 => if r2 = nI 0 then (if ((σ).1 x0 9) = (nI 4040) then (if x1 < (nI 6) then ((f_9015 tab σ x0).bind fun q3 => f_9032_66 tab g9030 g9031 g9032 q3 x0 x1) else ((f_9018 tab σ x0 ((nI 4))).bind fun q4 => gd (q4.1 = nI 0 ∨ q4.1 = nI 1) (some ((q4.1, q4.2))))) else ((f_9018 tab σ x0 ((nI 2))).bind fun q5 => gd (q5.1 = nI 0 ∨ q5.1 = nI 1) (some ((q5.1, q5.2))))) else (f_9032_14 tab g9030 g9031 g9032 σ x0)))
def kp_9032_90 (Q : px_M → Prop) : px_P := fun ls st τ => st = [] ∧ kZ ls (fun ls => kZ ls (fun ls => kE ls (Q τ)))
theorem kq_9032_90 {C : px_C} {k : Option px_V → px_M → Prop} {Q : px_M → Prop} (H : ∀ (τ : px_M), Q τ → ∀ (z0 : Option px_V) (z1 : Option px_V), px_W C k 90 [z0, z1] [] τ) : ∀ ls st τ, kp_9032_90 Q ls st τ → px_W C k 90 ls st τ := by
  intro ls st τ hz
  obtain ⟨ez, h0⟩ := hz
  obtain ⟨z0, l0, e0, h1⟩ := kZ_sp h0
  obtain ⟨z1, l1, e1, h2⟩ := kZ_sp h1
  obtain ⟨ey, hy⟩ := kE_sp h2
  subst ez
  subst ey
  subst e1
  subst e0
  exact H τ hy z0 z1
def kp_9032_66 (Q : Nat → Int32 → px_M → Prop) : px_P := fun ls st τ => st = [] ∧ kN ls (fun x0 ls => kI ls (fun x1 ls => kE ls (Q x0 x1 τ)))
theorem kq_9032_66 {C : px_C} {k : Option px_V → px_M → Prop} {Q : Nat → Int32 → px_M → Prop} (H : ∀ (x0 : Nat) (x1 : Int32) (τ : px_M), Q x0 x1 τ → px_W C k 66 [some (.inr (.inr (some x0))), some (.inl x1)] [] τ) : ∀ ls st τ, kp_9032_66 Q ls st τ → px_W C k 66 ls st τ := by
  intro ls st τ hz
  obtain ⟨ez, h0⟩ := hz
  obtain ⟨x0, l0, e0, h1⟩ := kN_sp h0
  obtain ⟨x1, l1, e1, h2⟩ := kI_sp h1
  obtain ⟨ey, hy⟩ := kE_sp h2
  subst ez
  subst ey
  subst e1
  subst e0
  exact H x0 x1 τ hy
def kp_9032_14 (Q : Nat → px_M → Prop) : px_P := fun ls st τ => st = [] ∧ kN ls (fun x0 ls => kZ ls (fun ls => kE ls (Q x0 τ)))
theorem kq_9032_14 {C : px_C} {k : Option px_V → px_M → Prop} {Q : Nat → px_M → Prop} (H : ∀ (x0 : Nat) (τ : px_M), Q x0 τ → ∀ (z1 : Option px_V), px_W C k 14 [some (.inr (.inr (some x0))), z1] [] τ) : ∀ ls st τ, kp_9032_14 Q ls st τ → px_W C k 14 ls st τ := by
  intro ls st τ hz
  obtain ⟨ez, h0⟩ := hz
  obtain ⟨x0, l0, e0, h1⟩ := kN_sp h0
  obtain ⟨z1, l1, e1, h2⟩ := kZ_sp h1
  obtain ⟨ey, hy⟩ := kE_sp h2
  subst ez
  subst ey
  subst e1
  subst e0
  exact H x0 τ hy z1
set_option maxHeartbeats 4000000 in
set_option maxRecDepth 100000 in
theorem rl_9032_90 {C : px_C} (hn : px_nd (px_tb C)) {h : Nat} (hh : 3 ≤ h) (hC : px_ok C pn_i9032 h) {g9030 : px_M → Nat → Int32 → Option (Int32 × px_M)} {g9031 : px_M → Nat → Int32 → Option (Int32 × px_M)} {g9032 : px_M → Nat → Int32 → Option (Int32 × px_M)} (hg9030 : px_Ok (px_tb C) pn_i9030 (h - 1) (Sg_9030 g9030)) (hg9031 : px_Ok (px_tb C) pn_i9031 (h - 1) (Sg_9031 g9031)) (hg9032 : px_Ok (px_tb C) pn_i9032 (h - 1) (Sg_9032 g9032)) {k : Option px_V → px_M → Prop} {σ : px_M} (hs : oW (f_9032_90 (px_tb C) g9030 g9031 g9032 σ) (fun q => k (some (.inl q.1)) q.2)) : ∀ (z0 : Option px_V) (z1 : Option px_V), px_W C k 90 [z0, z1] [] σ := by
  intro z0 z1
  refine px_runH (h - 1) ck_9032 [] [] 80 2 (some .boolean) rfl rfl hC px_nosp (by omega) px_nocut (fun G Jf hG hJf => ?_)
  unfold f_9032_90 at hs
  simp (implicitDefEqProofs := false) only [↓hG, ↓hJf, ↓px_vc, ↓px_ex, ↓px_jp, ↓rq_gi_0, ↓rq_gi_S, ↓rq_gl_0, ↓rq_gl_S, ↓rq_gr_0, ↓rq_gr_S, ↓rq_s1_0, ↓rq_s1_1, ↓rq_s1_S, ↓rq_s2_0, ↓rq_s2_1, ↓rq_s2_S, ↓rq_nl_n, ↓rq_nl_i, ↓rq_nl_l, ↓rq_nl_r, ↓rq_i1_s, ↓rq_l1_s, ↓r1_s, ↓rq_q1_s, ↓rq_i2_s, ↓rq_l2_s, ↓rq_il_s, ↓rq_d0_s, ↓rq_d1_i, ↓rq_d1_r, ↓rq_d2_l, ↓rq_d2_ii, ↓rq_d2_ir, ↓px_pop, ↓px_sp, ↓px_rd, ↓px_rf, ↓pn_xf, ↓rq_pt_0, ↓rq_pt_1, ↓rq_pt_2, ↓rq_pt_3, ↓px_sw, ↓pn_SW, ↓px_ma, ↓reduceIte, Nat.reduceEqDiff, Nat.reduceAdd, Nat.reduceSub, ↓Option.toList_some, ↓Option.toList_none, ↓List.cons_append, ↓List.nil_append, ↓kI_s, ↓kJ_s, ↓kN_s, ↓kO_s, ↓kZ_s, ↓kE_s, ↓an_rfl, ↓bt1 n00, ↓bt2 n00, ↓bf1 n10, ↓bf2 n10, ↓an_sz0, ↓an_sz1, ↓an_sz2, ↓an_sz3, ↓an_sz4, ↓an_ri, ↓an_rb0, ↓an_rb1, ↓an_b0, ↓an_b1, true_and, ↓ai_0s, ↓al_0s, ↓av_0s, ↓aq_0s, ↓ai_1s, ↓al_1s, ↓av_1s, ↓aq_1s, ↓ai_2s, ↓al_2s, ↓av_2s, ↓aq_2s, ↓ai_3s, ↓al_3s, ↓av_3s, ↓aq_3s, ↓ai_4s, ↓al_4s, ↓av_4s, ↓aq_4s, ↓ai_5s, ↓al_5s, ↓av_5s, ↓aq_5s, ↓ai_6s, ↓al_6s, ↓av_6s, ↓aq_6s, ↓ai_7s, ↓al_7s, ↓av_7s, ↓aq_7s, ↓an_l2, ↓bk_9032]
  rw [oW_some] at hs
  exact hs
set_option maxHeartbeats 4000000 in
set_option maxRecDepth 100000 in
theorem rl_9032_66 {C : px_C} (hn : px_nd (px_tb C)) {h : Nat} (hh : 3 ≤ h) (hC : px_ok C pn_i9032 h) {g9030 : px_M → Nat → Int32 → Option (Int32 × px_M)} {g9031 : px_M → Nat → Int32 → Option (Int32 × px_M)} {g9032 : px_M → Nat → Int32 → Option (Int32 × px_M)} (hg9030 : px_Ok (px_tb C) pn_i9030 (h - 1) (Sg_9030 g9030)) (hg9031 : px_Ok (px_tb C) pn_i9031 (h - 1) (Sg_9031 g9031)) (hg9032 : px_Ok (px_tb C) pn_i9032 (h - 1) (Sg_9032 g9032)) {k : Option px_V → px_M → Prop} {x0 : Nat} {x1 : Int32} {σ : px_M} (hs : oW (f_9032_66 (px_tb C) g9030 g9031 g9032 σ x0 x1) (fun q => k (some (.inl q.1)) q.2)) : px_W C k 66 [some (.inr (.inr (some x0))), some (.inl x1)] [] σ := by
  refine px_runH (h - 1) ck_9032 [(9019, Sg_9019 (f_9019 (px_tb C))), (9030, Sg_9030 g9030)] [(90, kp_9032_90 (fun τ => oW (f_9032_90 (px_tb C) g9030 g9031 g9032 τ) (fun q => k (some (.inl q.1)) q.2)))] 80 2 (some .boolean) rfl rfl hC (px_sp1 (mf_9019 hn (by omega)) (px_sp1 (hg9030) px_nosp)) (by omega) (px_cut1 (kq_9032_90 (fun τ hq => by exact rl_9032_90 hn (by omega) hC hg9030 hg9031 hg9032  hq)) px_nocut) (fun G Jf hG hJf => ?_)
  unfold f_9032_66 at hs
  obtain ⟨hc0, hs⟩ := oW_gx hs
  obtain ⟨q1, hc1, hs⟩ := oW_bx hs
  by_cases hc2 : q1.1 = nI 0
  · replace hs := oW_t hs hc2
    simp (implicitDefEqProofs := false) only [↓hG, ↓hJf, ↓px_vc, ↓px_ex, ↓px_jp, ↓rq_gi_0, ↓rq_gi_S, ↓rq_gl_0, ↓rq_gl_S, ↓rq_gr_0, ↓rq_gr_S, ↓rq_s1_0, ↓rq_s1_1, ↓rq_s1_S, ↓rq_s2_0, ↓rq_s2_1, ↓rq_s2_S, ↓rq_nl_n, ↓rq_nl_i, ↓rq_nl_l, ↓rq_nl_r, ↓rq_i1_s, ↓rq_l1_s, ↓r1_s, ↓rq_q1_s, ↓rq_i2_s, ↓rq_l2_s, ↓rq_il_s, ↓rq_d0_s, ↓rq_d1_i, ↓rq_d1_r, ↓rq_d2_l, ↓rq_d2_ii, ↓rq_d2_ir, ↓px_pop, ↓px_sp, ↓px_rd, ↓px_rf, ↓pn_xf, ↓rq_pt_0, ↓rq_pt_1, ↓rq_pt_2, ↓rq_pt_3, ↓px_sw, ↓pn_SW, ↓px_ma, ↓reduceIte, Nat.reduceEqDiff, Nat.reduceAdd, Nat.reduceSub, ↓Option.toList_some, ↓Option.toList_none, ↓List.cons_append, ↓List.nil_append, ↓kI_s, ↓kJ_s, ↓kN_s, ↓kO_s, ↓kZ_s, ↓kE_s, ↓an_rfl, ↓bt1 n00, ↓bt2 n00, ↓bf1 n10, ↓bf2 n10, ↓an_sz0, ↓an_sz1, ↓an_sz2, ↓an_sz3, ↓an_sz4, ↓an_ri, ↓an_rb0, ↓an_rb1, ↓an_b0, ↓an_b1, true_and, ↓ai_0s, ↓al_0s, ↓av_0s, ↓aq_0s, ↓ai_1s, ↓al_1s, ↓av_1s, ↓aq_1s, ↓ai_2s, ↓al_2s, ↓av_2s, ↓aq_2s, ↓ai_3s, ↓al_3s, ↓av_3s, ↓aq_3s, ↓ai_4s, ↓al_4s, ↓av_4s, ↓aq_4s, ↓ai_5s, ↓al_5s, ↓av_5s, ↓aq_5s, ↓ai_6s, ↓al_6s, ↓av_6s, ↓aq_6s, ↓ai_7s, ↓al_7s, ↓av_7s, ↓aq_7s, ↓an_l2, ↓bk_9032, ↓Sg_9019, ↓Sg_9030, ↓kp_9032_90, ↓an_t hc0, ↓an_rv hc0, ↓oW_e hc1, ↓bt1 hc2, ↓bt2 hc2]
    exact hs
  · replace hs := oW_f hs hc2
    obtain ⟨q2, hc3, hs⟩ := oW_bx hs
    by_cases hc4 : q2.1 = nI 0
    · replace hs := oW_t hs hc4
      simp (implicitDefEqProofs := false) only [↓hG, ↓hJf, ↓px_vc, ↓px_ex, ↓px_jp, ↓rq_gi_0, ↓rq_gi_S, ↓rq_gl_0, ↓rq_gl_S, ↓rq_gr_0, ↓rq_gr_S, ↓rq_s1_0, ↓rq_s1_1, ↓rq_s1_S, ↓rq_s2_0, ↓rq_s2_1, ↓rq_s2_S, ↓rq_nl_n, ↓rq_nl_i, ↓rq_nl_l, ↓rq_nl_r, ↓rq_i1_s, ↓rq_l1_s, ↓r1_s, ↓rq_q1_s, ↓rq_i2_s, ↓rq_l2_s, ↓rq_il_s, ↓rq_d0_s, ↓rq_d1_i, ↓rq_d1_r, ↓rq_d2_l, ↓rq_d2_ii, ↓rq_d2_ir, ↓px_pop, ↓px_sp, ↓px_rd, ↓px_rf, ↓pn_xf, ↓rq_pt_0, ↓rq_pt_1, ↓rq_pt_2, ↓rq_pt_3, ↓px_sw, ↓pn_SW, ↓px_ma, ↓reduceIte, Nat.reduceEqDiff, Nat.reduceAdd, Nat.reduceSub, ↓Option.toList_some, ↓Option.toList_none, ↓List.cons_append, ↓List.nil_append, ↓kI_s, ↓kJ_s, ↓kN_s, ↓kO_s, ↓kZ_s, ↓kE_s, ↓an_rfl, ↓bt1 n00, ↓bt2 n00, ↓bf1 n10, ↓bf2 n10, ↓an_sz0, ↓an_sz1, ↓an_sz2, ↓an_sz3, ↓an_sz4, ↓an_ri, ↓an_rb0, ↓an_rb1, ↓an_b0, ↓an_b1, true_and, ↓ai_0s, ↓al_0s, ↓av_0s, ↓aq_0s, ↓ai_1s, ↓al_1s, ↓av_1s, ↓aq_1s, ↓ai_2s, ↓al_2s, ↓av_2s, ↓aq_2s, ↓ai_3s, ↓al_3s, ↓av_3s, ↓aq_3s, ↓ai_4s, ↓al_4s, ↓av_4s, ↓aq_4s, ↓ai_5s, ↓al_5s, ↓av_5s, ↓aq_5s, ↓ai_6s, ↓al_6s, ↓av_6s, ↓aq_6s, ↓ai_7s, ↓al_7s, ↓av_7s, ↓aq_7s, ↓an_l2, ↓bk_9032, ↓Sg_9019, ↓Sg_9030, ↓kp_9032_90, ↓an_t hc0, ↓an_rv hc0, ↓oW_e hc1, ↓bf1 hc2, ↓bf2 hc2, ↓oW_e hc3, ↓bt1 hc4, ↓bt2 hc4]
      exact hs
    · replace hs := oW_f hs hc4
      simp (implicitDefEqProofs := false) only [↓hG, ↓hJf, ↓px_vc, ↓px_ex, ↓px_jp, ↓rq_gi_0, ↓rq_gi_S, ↓rq_gl_0, ↓rq_gl_S, ↓rq_gr_0, ↓rq_gr_S, ↓rq_s1_0, ↓rq_s1_1, ↓rq_s1_S, ↓rq_s2_0, ↓rq_s2_1, ↓rq_s2_S, ↓rq_nl_n, ↓rq_nl_i, ↓rq_nl_l, ↓rq_nl_r, ↓rq_i1_s, ↓rq_l1_s, ↓r1_s, ↓rq_q1_s, ↓rq_i2_s, ↓rq_l2_s, ↓rq_il_s, ↓rq_d0_s, ↓rq_d1_i, ↓rq_d1_r, ↓rq_d2_l, ↓rq_d2_ii, ↓rq_d2_ir, ↓px_pop, ↓px_sp, ↓px_rd, ↓px_rf, ↓pn_xf, ↓rq_pt_0, ↓rq_pt_1, ↓rq_pt_2, ↓rq_pt_3, ↓px_sw, ↓pn_SW, ↓px_ma, ↓reduceIte, Nat.reduceEqDiff, Nat.reduceAdd, Nat.reduceSub, ↓Option.toList_some, ↓Option.toList_none, ↓List.cons_append, ↓List.nil_append, ↓kI_s, ↓kJ_s, ↓kN_s, ↓kO_s, ↓kZ_s, ↓kE_s, ↓an_rfl, ↓bt1 n00, ↓bt2 n00, ↓bf1 n10, ↓bf2 n10, ↓an_sz0, ↓an_sz1, ↓an_sz2, ↓an_sz3, ↓an_sz4, ↓an_ri, ↓an_rb0, ↓an_rb1, ↓an_b0, ↓an_b1, true_and, ↓ai_0s, ↓al_0s, ↓av_0s, ↓aq_0s, ↓ai_1s, ↓al_1s, ↓av_1s, ↓aq_1s, ↓ai_2s, ↓al_2s, ↓av_2s, ↓aq_2s, ↓ai_3s, ↓al_3s, ↓av_3s, ↓aq_3s, ↓ai_4s, ↓al_4s, ↓av_4s, ↓aq_4s, ↓ai_5s, ↓al_5s, ↓av_5s, ↓aq_5s, ↓ai_6s, ↓al_6s, ↓av_6s, ↓aq_6s, ↓ai_7s, ↓al_7s, ↓av_7s, ↓aq_7s, ↓an_l2, ↓bk_9032, ↓Sg_9019, ↓Sg_9030, ↓kp_9032_90, ↓an_t hc0, ↓an_rv hc0, ↓oW_e hc1, ↓bf1 hc2, ↓bf2 hc2, ↓oW_e hc3, ↓bf1 hc4, ↓bf2 hc4]
      rw [oW_some] at hs
      exact hs
set_option maxHeartbeats 4000000 in
set_option maxRecDepth 100000 in
theorem rl_9032_14 {C : px_C} (hn : px_nd (px_tb C)) {h : Nat} (hh : 3 ≤ h) (hC : px_ok C pn_i9032 h) {g9030 : px_M → Nat → Int32 → Option (Int32 × px_M)} {g9031 : px_M → Nat → Int32 → Option (Int32 × px_M)} {g9032 : px_M → Nat → Int32 → Option (Int32 × px_M)} (hg9030 : px_Ok (px_tb C) pn_i9030 (h - 1) (Sg_9030 g9030)) (hg9031 : px_Ok (px_tb C) pn_i9031 (h - 1) (Sg_9031 g9031)) (hg9032 : px_Ok (px_tb C) pn_i9032 (h - 1) (Sg_9032 g9032)) {k : Option px_V → px_M → Prop} {x0 : Nat} {σ : px_M} (hs : oW (f_9032_14 (px_tb C) g9030 g9031 g9032 σ x0) (fun q => k (some (.inl q.1)) q.2)) : ∀ (z1 : Option px_V), px_W C k 14 [some (.inr (.inr (some x0))), z1] [] σ := by
  intro z1
  refine px_runH (h - 1) ck_9032 [(9015, Sg_9015 (f_9015 (px_tb C))), (10004, Sg_10004 (f_10004 (px_tb C)))] [] 80 2 (some .boolean) rfl rfl hC (px_sp1 (mf_9015 hn (by omega)) (px_sp1 (mf_10004 hn (by omega)) px_nosp)) (by omega) px_nocut (fun G Jf hG hJf => ?_)
  unfold f_9032_14 at hs
  obtain ⟨hc0, hs⟩ := oW_gx hs
  obtain ⟨n1, hc1, hs⟩ := oW_bx hs
  obtain ⟨hc2, hs⟩ := oW_gx hs
  obtain ⟨n2, hc3, hs⟩ := oW_bx hs
  obtain ⟨hc4, hs⟩ := oW_gx hs
  obtain ⟨q3, hc5, hs⟩ := oW_bx hs
  obtain ⟨q4, hc6, hs⟩ := oW_bx hs
  simp (implicitDefEqProofs := false) only [↓hG, ↓hJf, ↓px_vc, ↓px_ex, ↓px_jp, ↓rq_gi_0, ↓rq_gi_S, ↓rq_gl_0, ↓rq_gl_S, ↓rq_gr_0, ↓rq_gr_S, ↓rq_s1_0, ↓rq_s1_1, ↓rq_s1_S, ↓rq_s2_0, ↓rq_s2_1, ↓rq_s2_S, ↓rq_nl_n, ↓rq_nl_i, ↓rq_nl_l, ↓rq_nl_r, ↓rq_i1_s, ↓rq_l1_s, ↓r1_s, ↓rq_q1_s, ↓rq_i2_s, ↓rq_l2_s, ↓rq_il_s, ↓rq_d0_s, ↓rq_d1_i, ↓rq_d1_r, ↓rq_d2_l, ↓rq_d2_ii, ↓rq_d2_ir, ↓px_pop, ↓px_sp, ↓px_rd, ↓px_rf, ↓pn_xf, ↓rq_pt_0, ↓rq_pt_1, ↓rq_pt_2, ↓rq_pt_3, ↓px_sw, ↓pn_SW, ↓px_ma, ↓reduceIte, Nat.reduceEqDiff, Nat.reduceAdd, Nat.reduceSub, ↓Option.toList_some, ↓Option.toList_none, ↓List.cons_append, ↓List.nil_append, ↓kI_s, ↓kJ_s, ↓kN_s, ↓kO_s, ↓kZ_s, ↓kE_s, ↓an_rfl, ↓bt1 n00, ↓bt2 n00, ↓bf1 n10, ↓bf2 n10, ↓an_sz0, ↓an_sz1, ↓an_sz2, ↓an_sz3, ↓an_sz4, ↓an_ri, ↓an_rb0, ↓an_rb1, ↓an_b0, ↓an_b1, true_and, ↓ai_0s, ↓al_0s, ↓av_0s, ↓aq_0s, ↓ai_1s, ↓al_1s, ↓av_1s, ↓aq_1s, ↓ai_2s, ↓al_2s, ↓av_2s, ↓aq_2s, ↓ai_3s, ↓al_3s, ↓av_3s, ↓aq_3s, ↓ai_4s, ↓al_4s, ↓av_4s, ↓aq_4s, ↓ai_5s, ↓al_5s, ↓av_5s, ↓aq_5s, ↓ai_6s, ↓al_6s, ↓av_6s, ↓aq_6s, ↓ai_7s, ↓al_7s, ↓av_7s, ↓aq_7s, ↓an_l2, ↓bk_9032, ↓Sg_9015, ↓Sg_10004, ↓an_t hc0, ↓an_rv hc0, ↓r1_e hc1, ↓av_0e hc1, ↓av_1e hc1, ↓av_2e hc1, ↓av_3e hc1, ↓an_t hc2, ↓an_rv hc2, ↓an_rvo hc1 hc2, ↓r1_e hc3, ↓av_0e hc3, ↓av_1e hc3, ↓av_2e hc3, ↓av_3e hc3, ↓an_t hc4, ↓an_rv hc4, ↓an_rvo hc3 hc4, ↓oW_e hc5, ↓oW_e hc6]
  rw [oW_some] at hs
  exact hs
set_option maxHeartbeats 4000000 in
set_option maxRecDepth 100000 in
theorem mF_9032 {tab : px_T} (hn : px_nd tab) {h : Nat} (hh : 3 ≤ h) {g9030 : px_M → Nat → Int32 → Option (Int32 × px_M)} {g9031 : px_M → Nat → Int32 → Option (Int32 × px_M)} {g9032 : px_M → Nat → Int32 → Option (Int32 × px_M)} (hg9030 : px_Ok tab pn_i9030 (h - 1) (Sg_9030 g9030)) (hg9031 : px_Ok tab pn_i9031 (h - 1) (Sg_9031 g9031)) (hg9032 : px_Ok tab pn_i9032 (h - 1) (Sg_9032 g9032)) : px_Ok tab pn_i9032 h (Sg_9032 (F_9032 tab g9030 g9031 g9032)) := by
  refine px_mth hn (by decide +kernel) (fun av σ k hS => ?_) (fun C hT hC av σ k hS => ?_)
  · obtain ⟨x0, av0, e0, h0⟩ := av_0p hS
    obtain ⟨x1, av1, e1, h1⟩ := ai_1p h0
    obtain ⟨ez, hs⟩ := h1
    subst ez
    subst e1
    subst e0
    exact Nat.le_of_ble_eq_true rfl
  · obtain ⟨x0, av0, e0, h0⟩ := av_0p hS
    obtain ⟨x1, av1, e1, h1⟩ := ai_1p h0
    obtain ⟨ez, hs⟩ := h1
    subst ez
    subst e1
    subst e0
    subst hT
    show px_W C k 0 [some (.inr (.inr (some x0))), some (.inl x1)] [] σ
    refine px_runH (h - 1) ck_9032 [(9015, Sg_9015 (f_9015 (px_tb C))), (9016, Sg_9016 (f_9016 (px_tb C))), (9017, Sg_9017 (f_9017 (px_tb C))), (9018, Sg_9018 (f_9018 (px_tb C)))] [(14, kp_9032_14 (fun y0 τ => oW (f_9032_14 (px_tb C) g9030 g9031 g9032 τ y0) (fun q => k (some (.inl q.1)) q.2))), (66, kp_9032_66 (fun y0 y1 τ => oW (f_9032_66 (px_tb C) g9030 g9031 g9032 τ y0 y1) (fun q => k (some (.inl q.1)) q.2)))] 80 2 (some .boolean) rfl rfl hC (px_sp1 (mf_9015 hn (by omega)) (px_sp1 (mf_9016 hn (by omega)) (px_sp1 (mf_9017 hn (by omega)) (px_sp1 (mf_9018 hn (by omega)) px_nosp)))) (by omega) (px_cut1 (kq_9032_14 (fun y0 τ hq => by exact rl_9032_14 hn (by omega) hC hg9030 hg9031 hg9032  hq)) (px_cut1 (kq_9032_66 (fun y0 y1 τ hq => by exact rl_9032_66 hn (by omega) hC hg9030 hg9031 hg9032  hq)) px_nocut)) (fun G Jf hG hJf => ?_)
    unfold F_9032 at hs
    obtain ⟨hc0, hs⟩ := oW_gx hs
    obtain ⟨r1, hc1, hs⟩ := oW_bx hs
    by_cases hc2 : r1 = nI 0
    · replace hs := bW_t hs hc2
      obtain ⟨r2, hc3, hs⟩ := oW_bx hs
      by_cases hc4 : r2 = nI 0
      · replace hs := oW_t hs hc4
        by_cases hc5 : ((σ).1 x0 9) = (nI 4040)
        · replace hs := oW_t hs hc5
          by_cases hc6 : x1 < (nI 6)
          · replace hs := oW_t hs hc6
            obtain ⟨q3, hc7, hs⟩ := oW_bx hs
            simp (implicitDefEqProofs := false) only [↓hG, ↓hJf, ↓px_vc, ↓px_ex, ↓px_jp, ↓rq_gi_0, ↓rq_gi_S, ↓rq_gl_0, ↓rq_gl_S, ↓rq_gr_0, ↓rq_gr_S, ↓rq_s1_0, ↓rq_s1_1, ↓rq_s1_S, ↓rq_s2_0, ↓rq_s2_1, ↓rq_s2_S, ↓rq_nl_n, ↓rq_nl_i, ↓rq_nl_l, ↓rq_nl_r, ↓rq_i1_s, ↓rq_l1_s, ↓r1_s, ↓rq_q1_s, ↓rq_i2_s, ↓rq_l2_s, ↓rq_il_s, ↓rq_d0_s, ↓rq_d1_i, ↓rq_d1_r, ↓rq_d2_l, ↓rq_d2_ii, ↓rq_d2_ir, ↓px_pop, ↓px_sp, ↓px_rd, ↓px_rf, ↓pn_xf, ↓rq_pt_0, ↓rq_pt_1, ↓rq_pt_2, ↓rq_pt_3, ↓px_sw, ↓pn_SW, ↓px_ma, ↓reduceIte, Nat.reduceEqDiff, Nat.reduceAdd, Nat.reduceSub, ↓Option.toList_some, ↓Option.toList_none, ↓List.cons_append, ↓List.nil_append, ↓kI_s, ↓kJ_s, ↓kN_s, ↓kO_s, ↓kZ_s, ↓kE_s, ↓an_rfl, ↓bt1 n00, ↓bt2 n00, ↓bf1 n10, ↓bf2 n10, ↓an_sz0, ↓an_sz1, ↓an_sz2, ↓an_sz3, ↓an_sz4, ↓an_ri, ↓an_rb0, ↓an_rb1, ↓an_b0, ↓an_b1, true_and, ↓ai_0s, ↓al_0s, ↓av_0s, ↓aq_0s, ↓ai_1s, ↓al_1s, ↓av_1s, ↓aq_1s, ↓ai_2s, ↓al_2s, ↓av_2s, ↓aq_2s, ↓ai_3s, ↓al_3s, ↓av_3s, ↓aq_3s, ↓ai_4s, ↓al_4s, ↓av_4s, ↓aq_4s, ↓ai_5s, ↓al_5s, ↓av_5s, ↓aq_5s, ↓ai_6s, ↓al_6s, ↓av_6s, ↓aq_6s, ↓ai_7s, ↓al_7s, ↓av_7s, ↓aq_7s, ↓an_l2, ↓bk_9032, ↓Sg_9015, ↓Sg_9016, ↓Sg_9017, ↓Sg_9018, ↓kp_9032_14, ↓kp_9032_66, ↓an_t hc0, ↓an_rv hc0, ↓oW_e hc1, ↓bt1 hc2, ↓bt2 hc2, ↓oW_e hc3, ↓bt1 hc4, ↓bt2 hc4, ↓bt1 hc5, ↓bt2 hc5, ↓bt1 hc6, ↓bt2 hc6, ↓oW_e hc7]
            exact hs
          · replace hs := oW_f hs hc6
            obtain ⟨q4, hc7, hs⟩ := oW_bx hs
            obtain ⟨hc8, hs⟩ := oW_gx hs
            simp (implicitDefEqProofs := false) only [↓hG, ↓hJf, ↓px_vc, ↓px_ex, ↓px_jp, ↓rq_gi_0, ↓rq_gi_S, ↓rq_gl_0, ↓rq_gl_S, ↓rq_gr_0, ↓rq_gr_S, ↓rq_s1_0, ↓rq_s1_1, ↓rq_s1_S, ↓rq_s2_0, ↓rq_s2_1, ↓rq_s2_S, ↓rq_nl_n, ↓rq_nl_i, ↓rq_nl_l, ↓rq_nl_r, ↓rq_i1_s, ↓rq_l1_s, ↓r1_s, ↓rq_q1_s, ↓rq_i2_s, ↓rq_l2_s, ↓rq_il_s, ↓rq_d0_s, ↓rq_d1_i, ↓rq_d1_r, ↓rq_d2_l, ↓rq_d2_ii, ↓rq_d2_ir, ↓px_pop, ↓px_sp, ↓px_rd, ↓px_rf, ↓pn_xf, ↓rq_pt_0, ↓rq_pt_1, ↓rq_pt_2, ↓rq_pt_3, ↓px_sw, ↓pn_SW, ↓px_ma, ↓reduceIte, Nat.reduceEqDiff, Nat.reduceAdd, Nat.reduceSub, ↓Option.toList_some, ↓Option.toList_none, ↓List.cons_append, ↓List.nil_append, ↓kI_s, ↓kJ_s, ↓kN_s, ↓kO_s, ↓kZ_s, ↓kE_s, ↓an_rfl, ↓bt1 n00, ↓bt2 n00, ↓bf1 n10, ↓bf2 n10, ↓an_sz0, ↓an_sz1, ↓an_sz2, ↓an_sz3, ↓an_sz4, ↓an_ri, ↓an_rb0, ↓an_rb1, ↓an_b0, ↓an_b1, true_and, ↓ai_0s, ↓al_0s, ↓av_0s, ↓aq_0s, ↓ai_1s, ↓al_1s, ↓av_1s, ↓aq_1s, ↓ai_2s, ↓al_2s, ↓av_2s, ↓aq_2s, ↓ai_3s, ↓al_3s, ↓av_3s, ↓aq_3s, ↓ai_4s, ↓al_4s, ↓av_4s, ↓aq_4s, ↓ai_5s, ↓al_5s, ↓av_5s, ↓aq_5s, ↓ai_6s, ↓al_6s, ↓av_6s, ↓aq_6s, ↓ai_7s, ↓al_7s, ↓av_7s, ↓aq_7s, ↓an_l2, ↓bk_9032, ↓Sg_9015, ↓Sg_9016, ↓Sg_9017, ↓Sg_9018, ↓kp_9032_14, ↓kp_9032_66, ↓an_t hc0, ↓an_rv hc0, ↓oW_e hc1, ↓bt1 hc2, ↓bt2 hc2, ↓oW_e hc3, ↓bt1 hc4, ↓bt2 hc4, ↓bt1 hc5, ↓bt2 hc5, ↓bf1 hc6, ↓bf2 hc6, ↓oW_e hc7, ↓an_t hc8, ↓an_rb hc8]
            rw [oW_some] at hs
            exact hs
        · replace hs := oW_f hs hc5
          obtain ⟨q5, hc6, hs⟩ := oW_bx hs
          obtain ⟨hc7, hs⟩ := oW_gx hs
          simp (implicitDefEqProofs := false) only [↓hG, ↓hJf, ↓px_vc, ↓px_ex, ↓px_jp, ↓rq_gi_0, ↓rq_gi_S, ↓rq_gl_0, ↓rq_gl_S, ↓rq_gr_0, ↓rq_gr_S, ↓rq_s1_0, ↓rq_s1_1, ↓rq_s1_S, ↓rq_s2_0, ↓rq_s2_1, ↓rq_s2_S, ↓rq_nl_n, ↓rq_nl_i, ↓rq_nl_l, ↓rq_nl_r, ↓rq_i1_s, ↓rq_l1_s, ↓r1_s, ↓rq_q1_s, ↓rq_i2_s, ↓rq_l2_s, ↓rq_il_s, ↓rq_d0_s, ↓rq_d1_i, ↓rq_d1_r, ↓rq_d2_l, ↓rq_d2_ii, ↓rq_d2_ir, ↓px_pop, ↓px_sp, ↓px_rd, ↓px_rf, ↓pn_xf, ↓rq_pt_0, ↓rq_pt_1, ↓rq_pt_2, ↓rq_pt_3, ↓px_sw, ↓pn_SW, ↓px_ma, ↓reduceIte, Nat.reduceEqDiff, Nat.reduceAdd, Nat.reduceSub, ↓Option.toList_some, ↓Option.toList_none, ↓List.cons_append, ↓List.nil_append, ↓kI_s, ↓kJ_s, ↓kN_s, ↓kO_s, ↓kZ_s, ↓kE_s, ↓an_rfl, ↓bt1 n00, ↓bt2 n00, ↓bf1 n10, ↓bf2 n10, ↓an_sz0, ↓an_sz1, ↓an_sz2, ↓an_sz3, ↓an_sz4, ↓an_ri, ↓an_rb0, ↓an_rb1, ↓an_b0, ↓an_b1, true_and, ↓ai_0s, ↓al_0s, ↓av_0s, ↓aq_0s, ↓ai_1s, ↓al_1s, ↓av_1s, ↓aq_1s, ↓ai_2s, ↓al_2s, ↓av_2s, ↓aq_2s, ↓ai_3s, ↓al_3s, ↓av_3s, ↓aq_3s, ↓ai_4s, ↓al_4s, ↓av_4s, ↓aq_4s, ↓ai_5s, ↓al_5s, ↓av_5s, ↓aq_5s, ↓ai_6s, ↓al_6s, ↓av_6s, ↓aq_6s, ↓ai_7s, ↓al_7s, ↓av_7s, ↓aq_7s, ↓an_l2, ↓bk_9032, ↓Sg_9015, ↓Sg_9016, ↓Sg_9017, ↓Sg_9018, ↓kp_9032_14, ↓kp_9032_66, ↓an_t hc0, ↓an_rv hc0, ↓oW_e hc1, ↓bt1 hc2, ↓bt2 hc2, ↓oW_e hc3, ↓bt1 hc4, ↓bt2 hc4, ↓bf1 hc5, ↓bf2 hc5, ↓oW_e hc6, ↓an_t hc7, ↓an_rb hc7]
          rw [oW_some] at hs
          exact hs
      · replace hs := oW_f hs hc4
        simp (implicitDefEqProofs := false) only [↓hG, ↓hJf, ↓px_vc, ↓px_ex, ↓px_jp, ↓rq_gi_0, ↓rq_gi_S, ↓rq_gl_0, ↓rq_gl_S, ↓rq_gr_0, ↓rq_gr_S, ↓rq_s1_0, ↓rq_s1_1, ↓rq_s1_S, ↓rq_s2_0, ↓rq_s2_1, ↓rq_s2_S, ↓rq_nl_n, ↓rq_nl_i, ↓rq_nl_l, ↓rq_nl_r, ↓rq_i1_s, ↓rq_l1_s, ↓r1_s, ↓rq_q1_s, ↓rq_i2_s, ↓rq_l2_s, ↓rq_il_s, ↓rq_d0_s, ↓rq_d1_i, ↓rq_d1_r, ↓rq_d2_l, ↓rq_d2_ii, ↓rq_d2_ir, ↓px_pop, ↓px_sp, ↓px_rd, ↓px_rf, ↓pn_xf, ↓rq_pt_0, ↓rq_pt_1, ↓rq_pt_2, ↓rq_pt_3, ↓px_sw, ↓pn_SW, ↓px_ma, ↓reduceIte, Nat.reduceEqDiff, Nat.reduceAdd, Nat.reduceSub, ↓Option.toList_some, ↓Option.toList_none, ↓List.cons_append, ↓List.nil_append, ↓kI_s, ↓kJ_s, ↓kN_s, ↓kO_s, ↓kZ_s, ↓kE_s, ↓an_rfl, ↓bt1 n00, ↓bt2 n00, ↓bf1 n10, ↓bf2 n10, ↓an_sz0, ↓an_sz1, ↓an_sz2, ↓an_sz3, ↓an_sz4, ↓an_ri, ↓an_rb0, ↓an_rb1, ↓an_b0, ↓an_b1, true_and, ↓ai_0s, ↓al_0s, ↓av_0s, ↓aq_0s, ↓ai_1s, ↓al_1s, ↓av_1s, ↓aq_1s, ↓ai_2s, ↓al_2s, ↓av_2s, ↓aq_2s, ↓ai_3s, ↓al_3s, ↓av_3s, ↓aq_3s, ↓ai_4s, ↓al_4s, ↓av_4s, ↓aq_4s, ↓ai_5s, ↓al_5s, ↓av_5s, ↓aq_5s, ↓ai_6s, ↓al_6s, ↓av_6s, ↓aq_6s, ↓ai_7s, ↓al_7s, ↓av_7s, ↓aq_7s, ↓an_l2, ↓bk_9032, ↓Sg_9015, ↓Sg_9016, ↓Sg_9017, ↓Sg_9018, ↓kp_9032_14, ↓kp_9032_66, ↓an_t hc0, ↓an_rv hc0, ↓oW_e hc1, ↓bt1 hc2, ↓bt2 hc2, ↓oW_e hc3, ↓bf1 hc4, ↓bf2 hc4]
        exact hs
    · replace hs := bW_f hs hc2
      simp (implicitDefEqProofs := false) only [↓hG, ↓hJf, ↓px_vc, ↓px_ex, ↓px_jp, ↓rq_gi_0, ↓rq_gi_S, ↓rq_gl_0, ↓rq_gl_S, ↓rq_gr_0, ↓rq_gr_S, ↓rq_s1_0, ↓rq_s1_1, ↓rq_s1_S, ↓rq_s2_0, ↓rq_s2_1, ↓rq_s2_S, ↓rq_nl_n, ↓rq_nl_i, ↓rq_nl_l, ↓rq_nl_r, ↓rq_i1_s, ↓rq_l1_s, ↓r1_s, ↓rq_q1_s, ↓rq_i2_s, ↓rq_l2_s, ↓rq_il_s, ↓rq_d0_s, ↓rq_d1_i, ↓rq_d1_r, ↓rq_d2_l, ↓rq_d2_ii, ↓rq_d2_ir, ↓px_pop, ↓px_sp, ↓px_rd, ↓px_rf, ↓pn_xf, ↓rq_pt_0, ↓rq_pt_1, ↓rq_pt_2, ↓rq_pt_3, ↓px_sw, ↓pn_SW, ↓px_ma, ↓reduceIte, Nat.reduceEqDiff, Nat.reduceAdd, Nat.reduceSub, ↓Option.toList_some, ↓Option.toList_none, ↓List.cons_append, ↓List.nil_append, ↓kI_s, ↓kJ_s, ↓kN_s, ↓kO_s, ↓kZ_s, ↓kE_s, ↓an_rfl, ↓bt1 n00, ↓bt2 n00, ↓bf1 n10, ↓bf2 n10, ↓an_sz0, ↓an_sz1, ↓an_sz2, ↓an_sz3, ↓an_sz4, ↓an_ri, ↓an_rb0, ↓an_rb1, ↓an_b0, ↓an_b1, true_and, ↓ai_0s, ↓al_0s, ↓av_0s, ↓aq_0s, ↓ai_1s, ↓al_1s, ↓av_1s, ↓aq_1s, ↓ai_2s, ↓al_2s, ↓av_2s, ↓aq_2s, ↓ai_3s, ↓al_3s, ↓av_3s, ↓aq_3s, ↓ai_4s, ↓al_4s, ↓av_4s, ↓aq_4s, ↓ai_5s, ↓al_5s, ↓av_5s, ↓aq_5s, ↓ai_6s, ↓al_6s, ↓av_6s, ↓aq_6s, ↓ai_7s, ↓al_7s, ↓av_7s, ↓aq_7s, ↓an_l2, ↓bk_9032, ↓Sg_9015, ↓Sg_9016, ↓Sg_9017, ↓Sg_9018, ↓kp_9032_14, ↓kp_9032_66, ↓an_t hc0, ↓an_rv hc0, ↓oW_e hc1, ↓bf1 hc2, ↓bf2 hc2]
      exact hs
noncomputable def fr_9030 (tab : px_T) : Nat → (px_M → Nat → Int32 → Option (Int32 × px_M)) × (px_M → Nat → Int32 → Option (Int32 × px_M)) × (px_M → Nat → Int32 → Option (Int32 × px_M))
  | 0 => (fun _ _ _ => none, fun _ _ _ => none, fun _ _ _ => none)
  | d + 1 => (F_9030 tab ((fr_9030 tab d).1) ((fr_9030 tab d).2.1) ((fr_9030 tab d).2.2), F_9031 tab ((fr_9030 tab d).1) ((fr_9030 tab d).2.1) ((fr_9030 tab d).2.2), F_9032 tab ((fr_9030 tab d).1) ((fr_9030 tab d).2.1) ((fr_9030 tab d).2.2))
noncomputable def f_9030 (tab : px_T) (d : Nat) : px_M → Nat → Int32 → Option (Int32 × px_M) := (fr_9030 tab d).1
noncomputable def f_9031 (tab : px_T) (d : Nat) : px_M → Nat → Int32 → Option (Int32 × px_M) := (fr_9030 tab d).2.1
noncomputable def f_9032 (tab : px_T) (d : Nat) : px_M → Nat → Int32 → Option (Int32 × px_M) := (fr_9030 tab d).2.2
theorem f_9030_S (tab : px_T) (d : Nat) : f_9030 tab (d + 1) = F_9030 tab (f_9030 tab d) (f_9031 tab d) (f_9032 tab d) := rfl
theorem f_9031_S (tab : px_T) (d : Nat) : f_9031 tab (d + 1) = F_9031 tab (f_9030 tab d) (f_9031 tab d) (f_9032 tab d) := rfl
theorem f_9032_S (tab : px_T) (d : Nat) : f_9032 tab (d + 1) = F_9032 tab (f_9030 tab d) (f_9031 tab d) (f_9032 tab d) := rfl
theorem mr_f9030 {tab : px_T} (hn : px_nd tab) : ∀ (d h : Nat), 2 + d ≤ h → px_Ok tab pn_i9030 h (Sg_9030 (f_9030 tab d)) ∧ px_Ok tab pn_i9031 h (Sg_9031 (f_9031 tab d)) ∧ px_Ok tab pn_i9032 h (Sg_9032 (f_9032 tab d)) := by
  intro d
  induction d with
  | zero =>
    intro h hh
    exact ⟨px_Ok_no (fun av σ k h0 => by obtain ⟨x0, av0, -, h1⟩ := av_0p h0; obtain ⟨x1, av1, -, h2⟩ := ai_1p h1; obtain ⟨x, hx, -⟩ := h2.2; cases hx), px_Ok_no (fun av σ k h0 => by obtain ⟨x0, av0, -, h1⟩ := av_0p h0; obtain ⟨x1, av1, -, h2⟩ := ai_1p h1; obtain ⟨x, hx, -⟩ := h2.2; cases hx), px_Ok_no (fun av σ k h0 => by obtain ⟨x0, av0, -, h1⟩ := av_0p h0; obtain ⟨x1, av1, -, h2⟩ := ai_1p h1; obtain ⟨x, hx, -⟩ := h2.2; cases hx)⟩
  | succ d ih =>
    intro h hh
    obtain ⟨h9030, h9031, h9032⟩ := ih (h - 1) (by omega)
    exact ⟨mF_9030 hn (by omega) h9030 h9031 h9032, mF_9031 hn (by omega) h9030 h9031 h9032, mF_9032 hn (by omega) h9030 h9031 h9032⟩
theorem mf_9030 {tab : px_T} (hn : px_nd tab) {h d : Nat} (hh : 2 + d ≤ h) : px_Ok tab pn_i9030 h (Sg_9030 (f_9030 tab d)) := (mr_f9030 hn d h hh).1
theorem mf_9031 {tab : px_T} (hn : px_nd tab) {h d : Nat} (hh : 2 + d ≤ h) : px_Ok tab pn_i9031 h (Sg_9031 (f_9031 tab d)) := (mr_f9030 hn d h hh).2.1
theorem mf_9032 {tab : px_T} (hn : px_nd tab) {h d : Nat} (hh : 2 + d ≤ h) : px_Ok tab pn_i9032 h (Sg_9032 (f_9032 tab d)) := (mr_f9030 hn d h hh).2.2
