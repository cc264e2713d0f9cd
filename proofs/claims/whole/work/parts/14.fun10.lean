/-! shallow functions, printed by wip/whole/decomp.py -/
def Sg_49 (g : px_M → Nat → Int32 → Int32 → Option (Int32 × px_M)) : px_S := fun av σ k => av_0 av (fun x0 av => ai_1 av (fun x1 av => ai_2 av (fun x2 av => av = [] ∧ oW (g σ x0 x1 x2) (fun q => k (some (.inl q.1)) q.2))))
/-- NoThreeModel.holds(II)I -/
noncomputable def f_49_37 (tab : px_T) (σ : px_M) (x0 : Nat) (x1 : Int32) (x2 : Int32) : Option (Int32 × px_M) := gd (px_obj (px_lay tab x0) 0) ((f_48 tab σ x0 x1 x2).bind fun q1 => if q1.1 = nI 0 then (some (((nI 0), q1.2))) else (some (((nI 1), q1.2))))
noncomputable def f_49_34 (tab : px_T) (σ : px_M) : Option (Int32 × px_M) := some (((-2), σ))
noncomputable def f_49 (tab : px_T) (σ : px_M) (x0 : Nat) (x1 : Int32) (x2 : Int32) : Option (Int32 × px_M) := gd (px_obj (px_lay tab x0) 0) (((((px_wi σ x0 0 (nI 0))).2.2 x0 1)).bind fun n1 => oA (px_lay tab n1) fun t2 l3 => gd (t2 = 0 ∨ t2 = 11) (gd (vp_in (nI 158) l3) ((f_2 tab (px_wi σ x0 0 (nI 0)) ((x1).toInt64) ((lN 0)) ((((px_av t2 (px_wi σ x0 0 (nI 0)) n1 ((nI 158)).toNatClampNeg) - (nI 1))).toInt64)).bind fun r4 => if r4 = nI 0 then (f_49_34 tab ((px_wi σ x0 0 (nI 0)))) else ((f_30 tab (px_wi σ x0 0 (nI 0)) x0 ((x2).toInt64)).bind fun r5 => bn (r5 = nI 0) (f_49_37 tab ((px_wi σ x0 0 (nI 0))) x0 x1 x2) (f_49_34 tab ((px_wi σ x0 0 (nI 0))))))))
def kp_49_37 (Q : Nat → Int32 → Int32 → px_M → Prop) : px_P := fun ls st τ => st = [] ∧ kN ls (fun x0 ls => kI ls (fun x1 ls => kI ls (fun x2 ls => kE ls (Q x0 x1 x2 τ))))
theorem kq_49_37 {C : px_C} {k : Option px_V → px_M → Prop} {Q : Nat → Int32 → Int32 → px_M → Prop} (H : ∀ (x0 : Nat) (x1 : Int32) (x2 : Int32) (τ : px_M), Q x0 x1 x2 τ → px_W C k 37 [some (.inr (.inr (some x0))), some (.inl x1), some (.inl x2)] [] τ) : ∀ ls st τ, kp_49_37 Q ls st τ → px_W C k 37 ls st τ := by
  intro ls st τ hz
  obtain ⟨ez, h0⟩ := hz
  obtain ⟨x0, l0, e0, h1⟩ := kN_sp h0
  obtain ⟨x1, l1, e1, h2⟩ := kI_sp h1
  obtain ⟨x2, l2, e2, h3⟩ := kI_sp h2
  obtain ⟨ey, hy⟩ := kE_sp h3
  subst ez
  subst ey
  subst e2
  subst e1
  subst e0
  exact H x0 x1 x2 τ hy
def kp_49_34 (Q : px_M → Prop) : px_P := fun ls st τ => st = [] ∧ kZ ls (fun ls => kZ ls (fun ls => kZ ls (fun ls => kE ls (Q τ))))
theorem kq_49_34 {C : px_C} {k : Option px_V → px_M → Prop} {Q : px_M → Prop} (H : ∀ (τ : px_M), Q τ → ∀ (z0 : Option px_V) (z1 : Option px_V) (z2 : Option px_V), px_W C k 34 [z0, z1, z2] [] τ) : ∀ ls st τ, kp_49_34 Q ls st τ → px_W C k 34 ls st τ := by
  intro ls st τ hz
  obtain ⟨ez, h0⟩ := hz
  obtain ⟨z0, l0, e0, h1⟩ := kZ_sp h0
  obtain ⟨z1, l1, e1, h2⟩ := kZ_sp h1
  obtain ⟨z2, l2, e2, h3⟩ := kZ_sp h2
  obtain ⟨ey, hy⟩ := kE_sp h3
  subst ez
  subst ey
  subst e2
  subst e1
  subst e0
  exact H τ hy z0 z1 z2
set_option maxHeartbeats 4000000 in
set_option maxRecDepth 100000 in
theorem rl_49_37 {C : px_C} (hn : px_nd (px_tb C)) {h : Nat} (hh : 30 ≤ h) (hC : px_ok C pn_i49 h) {k : Option px_V → px_M → Prop} {x0 : Nat} {x1 : Int32} {x2 : Int32} {σ : px_M} (hs : oW (f_49_37 (px_tb C) σ x0 x1 x2) (fun q => k (some (.inl q.1)) q.2)) : px_W C k 37 [some (.inr (.inr (some x0))), some (.inl x1), some (.inl x2)] [] σ := by
  refine px_runH (h - 1) ck_49 [(48, Sg_48 (f_48 (px_tb C)))] [] 80 3 (some .int) rfl rfl hC (px_sp1 (mf_48 hn (by omega)) px_nosp) (by omega) px_nocut (fun G Jf hG hJf => ?_)
  unfold f_49_37 at hs
  obtain ⟨hc0, hs⟩ := oW_gx hs
  obtain ⟨q1, hc1, hs⟩ := oW_bx hs
  by_cases hc2 : q1.1 = nI 0
  · replace hs := oW_t hs hc2
    simp only [↓hG, ↓hJf, ↓px_vc, ↓px_ex, ↓px_jp, ↓px_gi, ↓px_gl, ↓px_gr, ↓px_s1, ↓px_s2, ↓px_nl, ↓px_i1, ↓px_l1, ↓r1_s, ↓px_q1, ↓px_i2, ↓px_l2, ↓px_il, ↓px_d0, ↓px_d1, ↓px_d2, ↓px_pop, ↓px_sp, ↓px_rd, ↓px_rf, ↓pn_xf, ↓px_pt, ↓px_sw, ↓pn_SW, ↓px_ma, ↓reduceIte, Nat.reduceEqDiff, Nat.reduceAdd, Nat.reduceSub, ↓Option.toList_some, ↓Option.toList_none, ↓List.cons_append, ↓List.nil_append, ↓kI_s, ↓kJ_s, ↓kN_s, ↓kO_s, ↓kZ_s, ↓kE_s, ↓an_rfl, ↓bt1 n00, ↓bt2 n00, ↓bf1 n10, ↓bf2 n10, ↓an_sz0, ↓an_sz1, ↓an_sz2, ↓an_sz3, ↓an_sz4, ↓an_ri, ↓an_rb0, ↓an_rb1, ↓an_b0, ↓an_b1, true_and, ↓ai_0s, ↓al_0s, ↓av_0s, ↓aq_0s, ↓ai_1s, ↓al_1s, ↓av_1s, ↓aq_1s, ↓ai_2s, ↓al_2s, ↓av_2s, ↓aq_2s, ↓ai_3s, ↓al_3s, ↓av_3s, ↓aq_3s, ↓ai_4s, ↓al_4s, ↓av_4s, ↓aq_4s, ↓ai_5s, ↓al_5s, ↓av_5s, ↓aq_5s, ↓ai_6s, ↓al_6s, ↓av_6s, ↓aq_6s, ↓ai_7s, ↓al_7s, ↓av_7s, ↓aq_7s, ↓an_l3, ↓bk_49, ↓Sg_48, ↓an_t hc0, ↓an_rv hc0, ↓oW_e hc1, ↓bt1 hc2, ↓bt2 hc2]
    rw [oW_some] at hs
    exact hs
  · replace hs := oW_f hs hc2
    simp only [↓hG, ↓hJf, ↓px_vc, ↓px_ex, ↓px_jp, ↓px_gi, ↓px_gl, ↓px_gr, ↓px_s1, ↓px_s2, ↓px_nl, ↓px_i1, ↓px_l1, ↓r1_s, ↓px_q1, ↓px_i2, ↓px_l2, ↓px_il, ↓px_d0, ↓px_d1, ↓px_d2, ↓px_pop, ↓px_sp, ↓px_rd, ↓px_rf, ↓pn_xf, ↓px_pt, ↓px_sw, ↓pn_SW, ↓px_ma, ↓reduceIte, Nat.reduceEqDiff, Nat.reduceAdd, Nat.reduceSub, ↓Option.toList_some, ↓Option.toList_none, ↓List.cons_append, ↓List.nil_append, ↓kI_s, ↓kJ_s, ↓kN_s, ↓kO_s, ↓kZ_s, ↓kE_s, ↓an_rfl, ↓bt1 n00, ↓bt2 n00, ↓bf1 n10, ↓bf2 n10, ↓an_sz0, ↓an_sz1, ↓an_sz2, ↓an_sz3, ↓an_sz4, ↓an_ri, ↓an_rb0, ↓an_rb1, ↓an_b0, ↓an_b1, true_and, ↓ai_0s, ↓al_0s, ↓av_0s, ↓aq_0s, ↓ai_1s, ↓al_1s, ↓av_1s, ↓aq_1s, ↓ai_2s, ↓al_2s, ↓av_2s, ↓aq_2s, ↓ai_3s, ↓al_3s, ↓av_3s, ↓aq_3s, ↓ai_4s, ↓al_4s, ↓av_4s, ↓aq_4s, ↓ai_5s, ↓al_5s, ↓av_5s, ↓aq_5s, ↓ai_6s, ↓al_6s, ↓av_6s, ↓aq_6s, ↓ai_7s, ↓al_7s, ↓av_7s, ↓aq_7s, ↓an_l3, ↓bk_49, ↓Sg_48, ↓an_t hc0, ↓an_rv hc0, ↓oW_e hc1, ↓bf1 hc2, ↓bf2 hc2]
    rw [oW_some] at hs
    exact hs
set_option maxHeartbeats 4000000 in
set_option maxRecDepth 100000 in
theorem rl_49_34 {C : px_C} (hn : px_nd (px_tb C)) {h : Nat} (hh : 30 ≤ h) (hC : px_ok C pn_i49 h) {k : Option px_V → px_M → Prop} {σ : px_M} (hs : oW (f_49_34 (px_tb C) σ) (fun q => k (some (.inl q.1)) q.2)) : ∀ (z0 : Option px_V) (z1 : Option px_V) (z2 : Option px_V), px_W C k 34 [z0, z1, z2] [] σ := by
  intro z0 z1 z2
  refine px_runH (h - 1) ck_49 [] [] 80 3 (some .int) rfl rfl hC px_nosp (by omega) px_nocut (fun G Jf hG hJf => ?_)
  unfold f_49_34 at hs
  simp only [↓hG, ↓hJf, ↓px_vc, ↓px_ex, ↓px_jp, ↓px_gi, ↓px_gl, ↓px_gr, ↓px_s1, ↓px_s2, ↓px_nl, ↓px_i1, ↓px_l1, ↓r1_s, ↓px_q1, ↓px_i2, ↓px_l2, ↓px_il, ↓px_d0, ↓px_d1, ↓px_d2, ↓px_pop, ↓px_sp, ↓px_rd, ↓px_rf, ↓pn_xf, ↓px_pt, ↓px_sw, ↓pn_SW, ↓px_ma, ↓reduceIte, Nat.reduceEqDiff, Nat.reduceAdd, Nat.reduceSub, ↓Option.toList_some, ↓Option.toList_none, ↓List.cons_append, ↓List.nil_append, ↓kI_s, ↓kJ_s, ↓kN_s, ↓kO_s, ↓kZ_s, ↓kE_s, ↓an_rfl, ↓bt1 n00, ↓bt2 n00, ↓bf1 n10, ↓bf2 n10, ↓an_sz0, ↓an_sz1, ↓an_sz2, ↓an_sz3, ↓an_sz4, ↓an_ri, ↓an_rb0, ↓an_rb1, ↓an_b0, ↓an_b1, true_and, ↓ai_0s, ↓al_0s, ↓av_0s, ↓aq_0s, ↓ai_1s, ↓al_1s, ↓av_1s, ↓aq_1s, ↓ai_2s, ↓al_2s, ↓av_2s, ↓aq_2s, ↓ai_3s, ↓al_3s, ↓av_3s, ↓aq_3s, ↓ai_4s, ↓al_4s, ↓av_4s, ↓aq_4s, ↓ai_5s, ↓al_5s, ↓av_5s, ↓aq_5s, ↓ai_6s, ↓al_6s, ↓av_6s, ↓aq_6s, ↓ai_7s, ↓al_7s, ↓av_7s, ↓aq_7s, ↓an_l3, ↓bk_49]
  rw [oW_some] at hs
  exact hs
set_option maxHeartbeats 4000000 in
set_option maxRecDepth 100000 in
theorem mf_49 {tab : px_T} (hn : px_nd tab) {h : Nat} (hh : 30 ≤ h) : px_Ok tab pn_i49 h (Sg_49 (f_49 tab)) := by
  refine px_mth hn (by decide +kernel) (fun av σ k hS => ?_) (fun C hT hC av σ k hS => ?_)
  · obtain ⟨x0, av0, e0, h0⟩ := av_0p hS
    obtain ⟨x1, av1, e1, h1⟩ := ai_1p h0
    obtain ⟨x2, av2, e2, h2⟩ := ai_2p h1
    obtain ⟨ez, hs⟩ := h2
    subst ez
    subst e2
    subst e1
    subst e0
    exact Nat.le_of_ble_eq_true rfl
  · obtain ⟨x0, av0, e0, h0⟩ := av_0p hS
    obtain ⟨x1, av1, e1, h1⟩ := ai_1p h0
    obtain ⟨x2, av2, e2, h2⟩ := ai_2p h1
    obtain ⟨ez, hs⟩ := h2
    subst ez
    subst e2
    subst e1
    subst e0
    subst hT
    show px_W C k 0 [some (.inr (.inr (some x0))), some (.inl x1), some (.inl x2)] [] σ
    refine px_runH (h - 1) ck_49 [(2, Sg_2 (f_2 (px_tb C))), (30, Sg_30 (f_30 (px_tb C)))] [(34, kp_49_34 (fun τ => oW (f_49_34 (px_tb C) τ) (fun q => k (some (.inl q.1)) q.2))), (37, kp_49_37 (fun y0 y1 y2 τ => oW (f_49_37 (px_tb C) τ y0 y1 y2) (fun q => k (some (.inl q.1)) q.2)))] 80 3 (some .int) rfl rfl hC (px_sp1 (mf_2 hn (by omega)) (px_sp1 (mf_30 hn (by omega)) px_nosp)) (by omega) (px_cut1 (kq_49_34 (fun τ hq => by exact rl_49_34 hn (by omega) hC  hq)) (px_cut1 (kq_49_37 (fun y0 y1 y2 τ hq => by exact rl_49_37 hn (by omega) hC  hq)) px_nocut)) (fun G Jf hG hJf => ?_)
    unfold f_49 at hs
    obtain ⟨hc0, hs⟩ := oW_gx hs
    obtain ⟨n1, hc1, hs⟩ := oW_bx hs
    obtain ⟨t2, l3, hc2, hs⟩ := oW_ax hs
    obtain ⟨hc3, hs⟩ := oW_gx hs
    obtain ⟨hc4, hs⟩ := oW_gx hs
    obtain ⟨r4, hc5, hs⟩ := oW_bx hs
    by_cases hc6 : r4 = nI 0
    · replace hs := oW_t hs hc6
      simp only [↓hG, ↓hJf, ↓px_vc, ↓px_ex, ↓px_jp, ↓px_gi, ↓px_gl, ↓px_gr, ↓px_s1, ↓px_s2, ↓px_nl, ↓px_i1, ↓px_l1, ↓r1_s, ↓px_q1, ↓px_i2, ↓px_l2, ↓px_il, ↓px_d0, ↓px_d1, ↓px_d2, ↓px_pop, ↓px_sp, ↓px_rd, ↓px_rf, ↓pn_xf, ↓px_pt, ↓px_sw, ↓pn_SW, ↓px_ma, ↓reduceIte, Nat.reduceEqDiff, Nat.reduceAdd, Nat.reduceSub, ↓Option.toList_some, ↓Option.toList_none, ↓List.cons_append, ↓List.nil_append, ↓kI_s, ↓kJ_s, ↓kN_s, ↓kO_s, ↓kZ_s, ↓kE_s, ↓an_rfl, ↓bt1 n00, ↓bt2 n00, ↓bf1 n10, ↓bf2 n10, ↓an_sz0, ↓an_sz1, ↓an_sz2, ↓an_sz3, ↓an_sz4, ↓an_ri, ↓an_rb0, ↓an_rb1, ↓an_b0, ↓an_b1, true_and, ↓ai_0s, ↓al_0s, ↓av_0s, ↓aq_0s, ↓ai_1s, ↓al_1s, ↓av_1s, ↓aq_1s, ↓ai_2s, ↓al_2s, ↓av_2s, ↓aq_2s, ↓ai_3s, ↓al_3s, ↓av_3s, ↓aq_3s, ↓ai_4s, ↓al_4s, ↓av_4s, ↓aq_4s, ↓ai_5s, ↓al_5s, ↓av_5s, ↓aq_5s, ↓ai_6s, ↓al_6s, ↓av_6s, ↓aq_6s, ↓ai_7s, ↓al_7s, ↓av_7s, ↓aq_7s, ↓an_l3, ↓bk_49, ↓Sg_2, ↓Sg_30, ↓kp_49_34, ↓kp_49_37, ↓an_t hc0, ↓an_rv hc0, ↓r1_e hc1, ↓av_0e hc1, ↓av_1e hc1, ↓av_2e hc1, ↓av_3e hc1, ↓ar_e hc2, ↓an_t hc3, ↓an_t hc4, ↓oW_e hc5, ↓bt1 hc6, ↓bt2 hc6]
      exact hs
    · replace hs := oW_f hs hc6
      obtain ⟨r5, hc7, hs⟩ := oW_bx hs
      by_cases hc8 : r5 = nI 0
      · replace hs := bW_t hs hc8
        simp only [↓hG, ↓hJf, ↓px_vc, ↓px_ex, ↓px_jp, ↓px_gi, ↓px_gl, ↓px_gr, ↓px_s1, ↓px_s2, ↓px_nl, ↓px_i1, ↓px_l1, ↓r1_s, ↓px_q1, ↓px_i2, ↓px_l2, ↓px_il, ↓px_d0, ↓px_d1, ↓px_d2, ↓px_pop, ↓px_sp, ↓px_rd, ↓px_rf, ↓pn_xf, ↓px_pt, ↓px_sw, ↓pn_SW, ↓px_ma, ↓reduceIte, Nat.reduceEqDiff, Nat.reduceAdd, Nat.reduceSub, ↓Option.toList_some, ↓Option.toList_none, ↓List.cons_append, ↓List.nil_append, ↓kI_s, ↓kJ_s, ↓kN_s, ↓kO_s, ↓kZ_s, ↓kE_s, ↓an_rfl, ↓bt1 n00, ↓bt2 n00, ↓bf1 n10, ↓bf2 n10, ↓an_sz0, ↓an_sz1, ↓an_sz2, ↓an_sz3, ↓an_sz4, ↓an_ri, ↓an_rb0, ↓an_rb1, ↓an_b0, ↓an_b1, true_and, ↓ai_0s, ↓al_0s, ↓av_0s, ↓aq_0s, ↓ai_1s, ↓al_1s, ↓av_1s, ↓aq_1s, ↓ai_2s, ↓al_2s, ↓av_2s, ↓aq_2s, ↓ai_3s, ↓al_3s, ↓av_3s, ↓aq_3s, ↓ai_4s, ↓al_4s, ↓av_4s, ↓aq_4s, ↓ai_5s, ↓al_5s, ↓av_5s, ↓aq_5s, ↓ai_6s, ↓al_6s, ↓av_6s, ↓aq_6s, ↓ai_7s, ↓al_7s, ↓av_7s, ↓aq_7s, ↓an_l3, ↓bk_49, ↓Sg_2, ↓Sg_30, ↓kp_49_34, ↓kp_49_37, ↓an_t hc0, ↓an_rv hc0, ↓r1_e hc1, ↓av_0e hc1, ↓av_1e hc1, ↓av_2e hc1, ↓av_3e hc1, ↓ar_e hc2, ↓an_t hc3, ↓an_t hc4, ↓oW_e hc5, ↓bf1 hc6, ↓bf2 hc6, ↓oW_e hc7, ↓bt1 hc8, ↓bt2 hc8]
        exact hs
      · replace hs := bW_f hs hc8
        simp only [↓hG, ↓hJf, ↓px_vc, ↓px_ex, ↓px_jp, ↓px_gi, ↓px_gl, ↓px_gr, ↓px_s1, ↓px_s2, ↓px_nl, ↓px_i1, ↓px_l1, ↓r1_s, ↓px_q1, ↓px_i2, ↓px_l2, ↓px_il, ↓px_d0, ↓px_d1, ↓px_d2, ↓px_pop, ↓px_sp, ↓px_rd, ↓px_rf, ↓pn_xf, ↓px_pt, ↓px_sw, ↓pn_SW, ↓px_ma, ↓reduceIte, Nat.reduceEqDiff, Nat.reduceAdd, Nat.reduceSub, ↓Option.toList_some, ↓Option.toList_none, ↓List.cons_append, ↓List.nil_append, ↓kI_s, ↓kJ_s, ↓kN_s, ↓kO_s, ↓kZ_s, ↓kE_s, ↓an_rfl, ↓bt1 n00, ↓bt2 n00, ↓bf1 n10, ↓bf2 n10, ↓an_sz0, ↓an_sz1, ↓an_sz2, ↓an_sz3, ↓an_sz4, ↓an_ri, ↓an_rb0, ↓an_rb1, ↓an_b0, ↓an_b1, true_and, ↓ai_0s, ↓al_0s, ↓av_0s, ↓aq_0s, ↓ai_1s, ↓al_1s, ↓av_1s, ↓aq_1s, ↓ai_2s, ↓al_2s, ↓av_2s, ↓aq_2s, ↓ai_3s, ↓al_3s, ↓av_3s, ↓aq_3s, ↓ai_4s, ↓al_4s, ↓av_4s, ↓aq_4s, ↓ai_5s, ↓al_5s, ↓av_5s, ↓aq_5s, ↓ai_6s, ↓al_6s, ↓av_6s, ↓aq_6s, ↓ai_7s, ↓al_7s, ↓av_7s, ↓aq_7s, ↓an_l3, ↓bk_49, ↓Sg_2, ↓Sg_30, ↓kp_49_34, ↓kp_49_37, ↓an_t hc0, ↓an_rv hc0, ↓r1_e hc1, ↓av_0e hc1, ↓av_1e hc1, ↓av_2e hc1, ↓av_3e hc1, ↓ar_e hc2, ↓an_t hc3, ↓an_t hc4, ↓oW_e hc5, ↓bf1 hc6, ↓bf2 hc6, ↓oW_e hc7, ↓bf1 hc8, ↓bf2 hc8]
        exact hs
def Sg_50 (g : px_M → Nat → Int32 → Option (Int32 × px_M)) : px_S := fun av σ k => av_0 av (fun x0 av => ai_1 av (fun x1 av => av = [] ∧ oW (g σ x0 x1) (fun q => k (some (.inl q.1)) q.2)))
/-- NoThreeModel.broken(I)I -/
noncomputable def F_50_32 (tab : px_T) (x0 : Nat) (x1 : Int32) (x2 : Int32) (x3 : Int32) (σ : px_M) : Option ((Int32 × px_M) ⊕ ((Int32 × px_M) ⊕ (Int32 × px_M))) := gd (px_obj (px_lay tab x0) 0) ((((σ).2.2 x0 1)).bind fun n1 => oA (px_lay tab n1) fun t2 l3 => gd (t2 = 0 ∨ t2 = 11) (gd (vp_in (nI 158) l3) (if (px_av t2 σ n1 ((nI 158)).toNatClampNeg) ≤ x3 then (some (.inr (.inl (((x2 + (nI 1)), σ))))) else ((f_48 tab σ x0 x3 x2).bind fun q4 => bn (q4.1 = nI 0) (some (.inl (((x3 + (nI 1)), q4.2)))) (bn (x1 = nI 0) (some (.inr (.inr ((x3, q4.2))))) (some (.inr (.inr ((x2, q4.2))))))))))
noncomputable def f_50_32 (tab : px_T) (x0 : Nat) (x1 : Int32) (x2 : Int32) (x3 : Int32) (σ : px_M) : Option ((Int32 × px_M) ⊕ (Int32 × px_M)) := lpO (fun s : Int32 × px_M => F_50_32 tab x0 x1 x2 s.1 s.2) (x3, σ)
theorem f_50_32_eq (tab : px_T) (x0 : Nat) (x1 : Int32) (x2 : Int32) (x3 : Int32) (σ : px_M) : f_50_32 tab x0 x1 x2 x3 σ = (F_50_32 tab x0 x1 x2 x3 σ).bind (Sum.elim (fun s => f_50_32 tab x0 x1 x2 s.1 s.2) some) := lpO_eq _ _
noncomputable def F_50_20 (tab : px_T) (x0 : Nat) (x1 : Int32) (x2 : Int32) (σ : px_M) : Option ((Int32 × px_M) ⊕ (Int32 × px_M)) := gd (px_obj (px_lay tab x0) 0) ((((σ).2.2 x0 1)).bind fun n1 => oA (px_lay tab n1) fun t2 l3 => gd (t2 = 0 ∨ t2 = 11) (gd (vp_in (nI 1) l3) (if (px_av t2 σ n1 ((nI 1)).toNatClampNeg) ≤ x2 then (some (.inr (((-1), σ)))) else (f_50_32 tab x0 x1 x2 ((nI 0)) σ))))
noncomputable def f_50_20 (tab : px_T) (x0 : Nat) (x1 : Int32) (x2 : Int32) (σ : px_M) : Option (Int32 × px_M) := lpO (fun s : Int32 × px_M => F_50_20 tab x0 x1 s.1 s.2) (x2, σ)
theorem f_50_20_eq (tab : px_T) (x0 : Nat) (x1 : Int32) (x2 : Int32) (σ : px_M) : f_50_20 tab x0 x1 x2 σ = (F_50_20 tab x0 x1 x2 σ).bind (Sum.elim (fun s => f_50_20 tab x0 x1 s.1 s.2) some) := lpO_eq _ _
noncomputable def f_50 (tab : px_T) (σ : px_M) (x0 : Nat) (x1 : Int32) : Option (Int32 × px_M) := gd (px_obj (px_lay tab x0) 0) ((f_2 tab (px_wi σ x0 0 (nI 0)) ((x1).toInt64) ((lN 0)) ((lN 1))).bind fun r1 => bn (r1 = nI 0) (f_50_20 tab x0 x1 ((nI 0)) ((px_wi σ x0 0 (nI 0)))) (some (((-2), (px_wi σ x0 0 (nI 0))))))
def kp_50_32 (Q : Nat → Int32 → Int32 → Int32 → px_M → Prop) : px_P := fun ls st τ => st = [] ∧ kN ls (fun x0 ls => kI ls (fun x1 ls => kI ls (fun x2 ls => kI ls (fun x3 ls => kE ls (Q x0 x1 x2 x3 τ)))))
theorem kq_50_32 {C : px_C} {k : Option px_V → px_M → Prop} {Q : Nat → Int32 → Int32 → Int32 → px_M → Prop} (H : ∀ (x0 : Nat) (x1 : Int32) (x2 : Int32) (x3 : Int32) (τ : px_M), Q x0 x1 x2 x3 τ → px_W C k 32 [some (.inr (.inr (some x0))), some (.inl x1), some (.inl x2), some (.inl x3)] [] τ) : ∀ ls st τ, kp_50_32 Q ls st τ → px_W C k 32 ls st τ := by
  intro ls st τ hz
  obtain ⟨ez, h0⟩ := hz
  obtain ⟨x0, l0, e0, h1⟩ := kN_sp h0
  obtain ⟨x1, l1, e1, h2⟩ := kI_sp h1
  obtain ⟨x2, l2, e2, h3⟩ := kI_sp h2
  obtain ⟨x3, l3, e3, h4⟩ := kI_sp h3
  obtain ⟨ey, hy⟩ := kE_sp h4
  subst ez
  subst ey
  subst e3
  subst e2
  subst e1
  subst e0
  exact H x0 x1 x2 x3 τ hy
def kp_50_20 (Q : Nat → Int32 → Int32 → px_M → Prop) : px_P := fun ls st τ => st = [] ∧ kN ls (fun x0 ls => kI ls (fun x1 ls => kI ls (fun x2 ls => kZ ls (fun ls => kE ls (Q x0 x1 x2 τ)))))
theorem kq_50_20 {C : px_C} {k : Option px_V → px_M → Prop} {Q : Nat → Int32 → Int32 → px_M → Prop} (H : ∀ (x0 : Nat) (x1 : Int32) (x2 : Int32) (τ : px_M), Q x0 x1 x2 τ → ∀ (z3 : Option px_V), px_W C k 20 [some (.inr (.inr (some x0))), some (.inl x1), some (.inl x2), z3] [] τ) : ∀ ls st τ, kp_50_20 Q ls st τ → px_W C k 20 ls st τ := by
  intro ls st τ hz
  obtain ⟨ez, h0⟩ := hz
  obtain ⟨x0, l0, e0, h1⟩ := kN_sp h0
  obtain ⟨x1, l1, e1, h2⟩ := kI_sp h1
  obtain ⟨x2, l2, e2, h3⟩ := kI_sp h2
  obtain ⟨z3, l3, e3, h4⟩ := kZ_sp h3
  obtain ⟨ey, hy⟩ := kE_sp h4
  subst ez
  subst ey
  subst e3
  subst e2
  subst e1
  subst e0
  exact H x0 x1 x2 τ hy z3
set_option maxHeartbeats 4000000 in
set_option maxRecDepth 100000 in
theorem rl_50_32 {C : px_C} (hn : px_nd (px_tb C)) {h : Nat} (hh : 30 ≤ h) (hC : px_ok C pn_i50 h) {k : Option px_V → px_M → Prop} {x0 : Nat} {x1 : Int32} {x2 : Int32} : ∀ s : Int32 × px_M, oW (f_50_32 (px_tb C) x0 x1 x2 s.1 s.2) (Sum.elim (fun s : Int32 × px_M => ∀ (z3 : Option px_V), px_W C k 20 [some (.inr (.inr (some x0))), some (.inl x1), some (.inl s.1), z3] [] s.2) (fun q => k (some (.inl q.1)) q.2)) → (fun s : Int32 × px_M => px_W C k 32 [some (.inr (.inr (some x0))), some (.inl x1), some (.inl x2), some (.inl s.1)] [] s.2) s := by
  intro s h0
  refine lpO_sound (P := (fun s : Int32 × px_M => px_W C k 32 [some (.inr (.inr (some x0))), some (.inl x1), some (.inl x2), some (.inl s.1)] [] s.2)) (fun s hs => ?_) h0
  obtain ⟨x3, σ⟩ := s
  refine px_runH (h - 1) ck_50 [(48, Sg_48 (f_48 (px_tb C)))] [(20, kp_50_20 (fun y0 y1 y2 τ => y0 = x0 ∧ y1 = x1 ∧ (fun s : Int32 × px_M => ∀ (z3 : Option px_V), px_W C k 20 [some (.inr (.inr (some x0))), some (.inl x1), some (.inl s.1), z3] [] s.2) (y2, τ))), (32, kp_50_32 (fun y0 y1 y2 y3 τ => y0 = x0 ∧ y1 = x1 ∧ y2 = x2 ∧ (fun s : Int32 × px_M => px_W C k 32 [some (.inr (.inr (some x0))), some (.inl x1), some (.inl x2), some (.inl s.1)] [] s.2) (y3, τ)))] 80 4 (some .int) rfl rfl hC (px_sp1 (mf_48 hn (by omega)) px_nosp) (by omega) (px_cut1 (kq_50_20 (fun y0 y1 y2 τ hq => by obtain ⟨rfl, rfl, hq⟩ := hq; exact hq)) (px_cut1 (kq_50_32 (fun y0 y1 y2 y3 τ hq => by obtain ⟨rfl, rfl, rfl, hq⟩ := hq; exact hq)) px_nocut)) (fun G Jf hG hJf => ?_)
  replace hs : oW (F_50_32 (px_tb C) x0 x1 x2 x3 σ) _ := hs
  unfold F_50_32 at hs
  obtain ⟨hc0, hs⟩ := oW_gx hs
  obtain ⟨n1, hc1, hs⟩ := oW_bx hs
  obtain ⟨t2, l3, hc2, hs⟩ := oW_ax hs
  obtain ⟨hc3, hs⟩ := oW_gx hs
  obtain ⟨hc4, hs⟩ := oW_gx hs
  by_cases hc5 : (px_av t2 σ n1 ((nI 158)).toNatClampNeg) ≤ x3
  · replace hs := oW_t hs hc5
    simp only [↓hG, ↓hJf, ↓px_vc, ↓px_ex, ↓px_jp, ↓px_gi, ↓px_gl, ↓px_gr, ↓px_s1, ↓px_s2, ↓px_nl, ↓px_i1, ↓px_l1, ↓r1_s, ↓px_q1, ↓px_i2, ↓px_l2, ↓px_il, ↓px_d0, ↓px_d1, ↓px_d2, ↓px_pop, ↓px_sp, ↓px_rd, ↓px_rf, ↓pn_xf, ↓px_pt, ↓px_sw, ↓pn_SW, ↓px_ma, ↓reduceIte, Nat.reduceEqDiff, Nat.reduceAdd, Nat.reduceSub, ↓Option.toList_some, ↓Option.toList_none, ↓List.cons_append, ↓List.nil_append, ↓kI_s, ↓kJ_s, ↓kN_s, ↓kO_s, ↓kZ_s, ↓kE_s, ↓an_rfl, ↓bt1 n00, ↓bt2 n00, ↓bf1 n10, ↓bf2 n10, ↓an_sz0, ↓an_sz1, ↓an_sz2, ↓an_sz3, ↓an_sz4, ↓an_ri, ↓an_rb0, ↓an_rb1, ↓an_b0, ↓an_b1, true_and, ↓ai_0s, ↓al_0s, ↓av_0s, ↓aq_0s, ↓ai_1s, ↓al_1s, ↓av_1s, ↓aq_1s, ↓ai_2s, ↓al_2s, ↓av_2s, ↓aq_2s, ↓ai_3s, ↓al_3s, ↓av_3s, ↓aq_3s, ↓ai_4s, ↓al_4s, ↓av_4s, ↓aq_4s, ↓ai_5s, ↓al_5s, ↓av_5s, ↓aq_5s, ↓ai_6s, ↓al_6s, ↓av_6s, ↓aq_6s, ↓ai_7s, ↓al_7s, ↓av_7s, ↓aq_7s, ↓an_l4, ↓bk_50, ↓Sg_48, ↓kp_50_20, ↓kp_50_32, ↓an_t hc0, ↓an_rv hc0, ↓r1_e hc1, ↓av_0e hc1, ↓av_1e hc1, ↓av_2e hc1, ↓av_3e hc1, ↓ar_e hc2, ↓an_t hc3, ↓an_t hc4, ↓bt1 hc5, ↓bt2 hc5]
    rw [oW_some] at hs
    exact hs
  · replace hs := oW_f hs hc5
    obtain ⟨q4, hc6, hs⟩ := oW_bx hs
    by_cases hc7 : q4.1 = nI 0
    · replace hs := bW_t hs hc7
      by_cases hc8 : x1 = nI 0
      · replace hs := bW_t hs hc8
        simp only [↓hG, ↓hJf, ↓px_vc, ↓px_ex, ↓px_jp, ↓px_gi, ↓px_gl, ↓px_gr, ↓px_s1, ↓px_s2, ↓px_nl, ↓px_i1, ↓px_l1, ↓r1_s, ↓px_q1, ↓px_i2, ↓px_l2, ↓px_il, ↓px_d0, ↓px_d1, ↓px_d2, ↓px_pop, ↓px_sp, ↓px_rd, ↓px_rf, ↓pn_xf, ↓px_pt, ↓px_sw, ↓pn_SW, ↓px_ma, ↓reduceIte, Nat.reduceEqDiff, Nat.reduceAdd, Nat.reduceSub, ↓Option.toList_some, ↓Option.toList_none, ↓List.cons_append, ↓List.nil_append, ↓kI_s, ↓kJ_s, ↓kN_s, ↓kO_s, ↓kZ_s, ↓kE_s, ↓an_rfl, ↓bt1 n00, ↓bt2 n00, ↓bf1 n10, ↓bf2 n10, ↓an_sz0, ↓an_sz1, ↓an_sz2, ↓an_sz3, ↓an_sz4, ↓an_ri, ↓an_rb0, ↓an_rb1, ↓an_b0, ↓an_b1, true_and, ↓ai_0s, ↓al_0s, ↓av_0s, ↓aq_0s, ↓ai_1s, ↓al_1s, ↓av_1s, ↓aq_1s, ↓ai_2s, ↓al_2s, ↓av_2s, ↓aq_2s, ↓ai_3s, ↓al_3s, ↓av_3s, ↓aq_3s, ↓ai_4s, ↓al_4s, ↓av_4s, ↓aq_4s, ↓ai_5s, ↓al_5s, ↓av_5s, ↓aq_5s, ↓ai_6s, ↓al_6s, ↓av_6s, ↓aq_6s, ↓ai_7s, ↓al_7s, ↓av_7s, ↓aq_7s, ↓an_l4, ↓bk_50, ↓Sg_48, ↓kp_50_20, ↓kp_50_32, ↓an_t hc0, ↓an_rv hc0, ↓r1_e hc1, ↓av_0e hc1, ↓av_1e hc1, ↓av_2e hc1, ↓av_3e hc1, ↓ar_e hc2, ↓an_t hc3, ↓an_t hc4, ↓bf1 hc5, ↓bf2 hc5, ↓oW_e hc6, ↓bt1 hc7, ↓bt2 hc7, ↓bt1 hc8, ↓bt2 hc8]
        rw [oW_some] at hs
        exact hs
      · replace hs := bW_f hs hc8
        simp only [↓hG, ↓hJf, ↓px_vc, ↓px_ex, ↓px_jp, ↓px_gi, ↓px_gl, ↓px_gr, ↓px_s1, ↓px_s2, ↓px_nl, ↓px_i1, ↓px_l1, ↓r1_s, ↓px_q1, ↓px_i2, ↓px_l2, ↓px_il, ↓px_d0, ↓px_d1, ↓px_d2, ↓px_pop, ↓px_sp, ↓px_rd, ↓px_rf, ↓pn_xf, ↓px_pt, ↓px_sw, ↓pn_SW, ↓px_ma, ↓reduceIte, Nat.reduceEqDiff, Nat.reduceAdd, Nat.reduceSub, ↓Option.toList_some, ↓Option.toList_none, ↓List.cons_append, ↓List.nil_append, ↓kI_s, ↓kJ_s, ↓kN_s, ↓kO_s, ↓kZ_s, ↓kE_s, ↓an_rfl, ↓bt1 n00, ↓bt2 n00, ↓bf1 n10, ↓bf2 n10, ↓an_sz0, ↓an_sz1, ↓an_sz2, ↓an_sz3, ↓an_sz4, ↓an_ri, ↓an_rb0, ↓an_rb1, ↓an_b0, ↓an_b1, true_and, ↓ai_0s, ↓al_0s, ↓av_0s, ↓aq_0s, ↓ai_1s, ↓al_1s, ↓av_1s, ↓aq_1s, ↓ai_2s, ↓al_2s, ↓av_2s, ↓aq_2s, ↓ai_3s, ↓al_3s, ↓av_3s, ↓aq_3s, ↓ai_4s, ↓al_4s, ↓av_4s, ↓aq_4s, ↓ai_5s, ↓al_5s, ↓av_5s, ↓aq_5s, ↓ai_6s, ↓al_6s, ↓av_6s, ↓aq_6s, ↓ai_7s, ↓al_7s, ↓av_7s, ↓aq_7s, ↓an_l4, ↓bk_50, ↓Sg_48, ↓kp_50_20, ↓kp_50_32, ↓an_t hc0, ↓an_rv hc0, ↓r1_e hc1, ↓av_0e hc1, ↓av_1e hc1, ↓av_2e hc1, ↓av_3e hc1, ↓ar_e hc2, ↓an_t hc3, ↓an_t hc4, ↓bf1 hc5, ↓bf2 hc5, ↓oW_e hc6, ↓bt1 hc7, ↓bt2 hc7, ↓bf1 hc8, ↓bf2 hc8]
        rw [oW_some] at hs
        exact hs
    · replace hs := bW_f hs hc7
      simp only [↓hG, ↓hJf, ↓px_vc, ↓px_ex, ↓px_jp, ↓px_gi, ↓px_gl, ↓px_gr, ↓px_s1, ↓px_s2, ↓px_nl, ↓px_i1, ↓px_l1, ↓r1_s, ↓px_q1, ↓px_i2, ↓px_l2, ↓px_il, ↓px_d0, ↓px_d1, ↓px_d2, ↓px_pop, ↓px_sp, ↓px_rd, ↓px_rf, ↓pn_xf, ↓px_pt, ↓px_sw, ↓pn_SW, ↓px_ma, ↓reduceIte, Nat.reduceEqDiff, Nat.reduceAdd, Nat.reduceSub, ↓Option.toList_some, ↓Option.toList_none, ↓List.cons_append, ↓List.nil_append, ↓kI_s, ↓kJ_s, ↓kN_s, ↓kO_s, ↓kZ_s, ↓kE_s, ↓an_rfl, ↓bt1 n00, ↓bt2 n00, ↓bf1 n10, ↓bf2 n10, ↓an_sz0, ↓an_sz1, ↓an_sz2, ↓an_sz3, ↓an_sz4, ↓an_ri, ↓an_rb0, ↓an_rb1, ↓an_b0, ↓an_b1, true_and, ↓ai_0s, ↓al_0s, ↓av_0s, ↓aq_0s, ↓ai_1s, ↓al_1s, ↓av_1s, ↓aq_1s, ↓ai_2s, ↓al_2s, ↓av_2s, ↓aq_2s, ↓ai_3s, ↓al_3s, ↓av_3s, ↓aq_3s, ↓ai_4s, ↓al_4s, ↓av_4s, ↓aq_4s, ↓ai_5s, ↓al_5s, ↓av_5s, ↓aq_5s, ↓ai_6s, ↓al_6s, ↓av_6s, ↓aq_6s, ↓ai_7s, ↓al_7s, ↓av_7s, ↓aq_7s, ↓an_l4, ↓bk_50, ↓Sg_48, ↓kp_50_20, ↓kp_50_32, ↓an_t hc0, ↓an_rv hc0, ↓r1_e hc1, ↓av_0e hc1, ↓av_1e hc1, ↓av_2e hc1, ↓av_3e hc1, ↓ar_e hc2, ↓an_t hc3, ↓an_t hc4, ↓bf1 hc5, ↓bf2 hc5, ↓oW_e hc6, ↓bf1 hc7, ↓bf2 hc7]
      rw [oW_some] at hs
      exact hs
set_option maxHeartbeats 4000000 in
set_option maxRecDepth 100000 in
theorem rl_50_20 {C : px_C} (hn : px_nd (px_tb C)) {h : Nat} (hh : 30 ≤ h) (hC : px_ok C pn_i50 h) {k : Option px_V → px_M → Prop} {x0 : Nat} {x1 : Int32} : ∀ s : Int32 × px_M, oW (f_50_20 (px_tb C) x0 x1 s.1 s.2) (fun q => k (some (.inl q.1)) q.2) → (fun s : Int32 × px_M => ∀ (z3 : Option px_V), px_W C k 20 [some (.inr (.inr (some x0))), some (.inl x1), some (.inl s.1), z3] [] s.2) s := by
  intro s h0
  refine lpO_sound (P := (fun s : Int32 × px_M => ∀ (z3 : Option px_V), px_W C k 20 [some (.inr (.inr (some x0))), some (.inl x1), some (.inl s.1), z3] [] s.2)) (fun s hs => ?_) h0
  obtain ⟨x2, σ⟩ := s
  intro z3
  refine px_runH (h - 1) ck_50 [] [(32, kp_50_32 (fun y0 y1 y2 y3 τ => y0 = x0 ∧ y1 = x1 ∧ oW (f_50_32 (px_tb C) y0 y1 y2 y3 τ) (Sum.elim (fun s : Int32 × px_M => ∀ (z3 : Option px_V), px_W C k 20 [some (.inr (.inr (some x0))), some (.inl x1), some (.inl s.1), z3] [] s.2) (fun q => k (some (.inl q.1)) q.2))))] 80 4 (some .int) rfl rfl hC px_nosp (by omega) (px_cut1 (kq_50_32 (fun y0 y1 y2 y3 τ hq => by obtain ⟨rfl, rfl, hq⟩ := hq; exact rl_50_32 hn (by omega) hC (y3, τ) hq)) px_nocut) (fun G Jf hG hJf => ?_)
  replace hs : oW (F_50_20 (px_tb C) x0 x1 x2 σ) _ := hs
  unfold F_50_20 at hs
  obtain ⟨hc0, hs⟩ := oW_gx hs
  obtain ⟨n1, hc1, hs⟩ := oW_bx hs
  obtain ⟨t2, l3, hc2, hs⟩ := oW_ax hs
  obtain ⟨hc3, hs⟩ := oW_gx hs
  obtain ⟨hc4, hs⟩ := oW_gx hs
  by_cases hc5 : (px_av t2 σ n1 ((nI 1)).toNatClampNeg) ≤ x2
  · replace hs := oW_t hs hc5
    simp only [↓hG, ↓hJf, ↓px_vc, ↓px_ex, ↓px_jp, ↓px_gi, ↓px_gl, ↓px_gr, ↓px_s1, ↓px_s2, ↓px_nl, ↓px_i1, ↓px_l1, ↓r1_s, ↓px_q1, ↓px_i2, ↓px_l2, ↓px_il, ↓px_d0, ↓px_d1, ↓px_d2, ↓px_pop, ↓px_sp, ↓px_rd, ↓px_rf, ↓pn_xf, ↓px_pt, ↓px_sw, ↓pn_SW, ↓px_ma, ↓reduceIte, Nat.reduceEqDiff, Nat.reduceAdd, Nat.reduceSub, ↓Option.toList_some, ↓Option.toList_none, ↓List.cons_append, ↓List.nil_append, ↓kI_s, ↓kJ_s, ↓kN_s, ↓kO_s, ↓kZ_s, ↓kE_s, ↓an_rfl, ↓bt1 n00, ↓bt2 n00, ↓bf1 n10, ↓bf2 n10, ↓an_sz0, ↓an_sz1, ↓an_sz2, ↓an_sz3, ↓an_sz4, ↓an_ri, ↓an_rb0, ↓an_rb1, ↓an_b0, ↓an_b1, true_and, ↓ai_0s, ↓al_0s, ↓av_0s, ↓aq_0s, ↓ai_1s, ↓al_1s, ↓av_1s, ↓aq_1s, ↓ai_2s, ↓al_2s, ↓av_2s, ↓aq_2s, ↓ai_3s, ↓al_3s, ↓av_3s, ↓aq_3s, ↓ai_4s, ↓al_4s, ↓av_4s, ↓aq_4s, ↓ai_5s, ↓al_5s, ↓av_5s, ↓aq_5s, ↓ai_6s, ↓al_6s, ↓av_6s, ↓aq_6s, ↓ai_7s, ↓al_7s, ↓av_7s, ↓aq_7s, ↓an_l4, ↓bk_50, ↓kp_50_32, ↓an_t hc0, ↓an_rv hc0, ↓r1_e hc1, ↓av_0e hc1, ↓av_1e hc1, ↓av_2e hc1, ↓av_3e hc1, ↓ar_e hc2, ↓an_t hc3, ↓an_t hc4, ↓bt1 hc5, ↓bt2 hc5]
    rw [oW_some] at hs
    exact hs
  · replace hs := oW_f hs hc5
    simp only [↓hG, ↓hJf, ↓px_vc, ↓px_ex, ↓px_jp, ↓px_gi, ↓px_gl, ↓px_gr, ↓px_s1, ↓px_s2, ↓px_nl, ↓px_i1, ↓px_l1, ↓r1_s, ↓px_q1, ↓px_i2, ↓px_l2, ↓px_il, ↓px_d0, ↓px_d1, ↓px_d2, ↓px_pop, ↓px_sp, ↓px_rd, ↓px_rf, ↓pn_xf, ↓px_pt, ↓px_sw, ↓pn_SW, ↓px_ma, ↓reduceIte, Nat.reduceEqDiff, Nat.reduceAdd, Nat.reduceSub, ↓Option.toList_some, ↓Option.toList_none, ↓List.cons_append, ↓List.nil_append, ↓kI_s, ↓kJ_s, ↓kN_s, ↓kO_s, ↓kZ_s, ↓kE_s, ↓an_rfl, ↓bt1 n00, ↓bt2 n00, ↓bf1 n10, ↓bf2 n10, ↓an_sz0, ↓an_sz1, ↓an_sz2, ↓an_sz3, ↓an_sz4, ↓an_ri, ↓an_rb0, ↓an_rb1, ↓an_b0, ↓an_b1, true_and, ↓ai_0s, ↓al_0s, ↓av_0s, ↓aq_0s, ↓ai_1s, ↓al_1s, ↓av_1s, ↓aq_1s, ↓ai_2s, ↓al_2s, ↓av_2s, ↓aq_2s, ↓ai_3s, ↓al_3s, ↓av_3s, ↓aq_3s, ↓ai_4s, ↓al_4s, ↓av_4s, ↓aq_4s, ↓ai_5s, ↓al_5s, ↓av_5s, ↓aq_5s, ↓ai_6s, ↓al_6s, ↓av_6s, ↓aq_6s, ↓ai_7s, ↓al_7s, ↓av_7s, ↓aq_7s, ↓an_l4, ↓bk_50, ↓kp_50_32, ↓an_t hc0, ↓an_rv hc0, ↓r1_e hc1, ↓av_0e hc1, ↓av_1e hc1, ↓av_2e hc1, ↓av_3e hc1, ↓ar_e hc2, ↓an_t hc3, ↓an_t hc4, ↓bf1 hc5, ↓bf2 hc5]
    exact hs
set_option maxHeartbeats 4000000 in
set_option maxRecDepth 100000 in
theorem mf_50 {tab : px_T} (hn : px_nd tab) {h : Nat} (hh : 30 ≤ h) : px_Ok tab pn_i50 h (Sg_50 (f_50 tab)) := by
  refine px_mth hn (by decide +kernel) (fun av σ k hS => ?_) (fun C hT hC av σ k hS => ?_)
  · obtain ⟨x0, av0, e0, h0⟩ := av_0p hS
    obtain ⟨x1, av1, e1, h1⟩ := ai_1p h0
    obtain ⟨ez, hs⟩ := h1
    subst ez
    subst e1
    subst e0
    exact Nat.le_of_ble_eq_true rfl
  · obtain ⟨x0, av0, e0, h0⟩ := av_0p hS
    obtain ⟨x1, av1, e1, h1⟩ := ai_1p h0
    obtain ⟨ez, hs⟩ := h1
    subst ez
    subst e1
    subst e0
    subst hT
    show px_W C k 0 [some (.inr (.inr (some x0))), some (.inl x1), none, none] [] σ
    refine px_runH (h - 1) ck_50 [(2, Sg_2 (f_2 (px_tb C)))] [(20, kp_50_20 (fun y0 y1 y2 τ => oW (f_50_20 (px_tb C) y0 y1 y2 τ) (fun q => k (some (.inl q.1)) q.2)))] 80 4 (some .int) rfl rfl hC (px_sp1 (mf_2 hn (by omega)) px_nosp) (by omega) (px_cut1 (kq_50_20 (fun y0 y1 y2 τ hq => by exact rl_50_20 hn (by omega) hC (y2, τ) hq)) px_nocut) (fun G Jf hG hJf => ?_)
    unfold f_50 at hs
    obtain ⟨hc0, hs⟩ := oW_gx hs
    obtain ⟨r1, hc1, hs⟩ := oW_bx hs
    by_cases hc2 : r1 = nI 0
    · replace hs := bW_t hs hc2
      simp only [↓hG, ↓hJf, ↓px_vc, ↓px_ex, ↓px_jp, ↓px_gi, ↓px_gl, ↓px_gr, ↓px_s1, ↓px_s2, ↓px_nl, ↓px_i1, ↓px_l1, ↓r1_s, ↓px_q1, ↓px_i2, ↓px_l2, ↓px_il, ↓px_d0, ↓px_d1, ↓px_d2, ↓px_pop, ↓px_sp, ↓px_rd, ↓px_rf, ↓pn_xf, ↓px_pt, ↓px_sw, ↓pn_SW, ↓px_ma, ↓reduceIte, Nat.reduceEqDiff, Nat.reduceAdd, Nat.reduceSub, ↓Option.toList_some, ↓Option.toList_none, ↓List.cons_append, ↓List.nil_append, ↓kI_s, ↓kJ_s, ↓kN_s, ↓kO_s, ↓kZ_s, ↓kE_s, ↓an_rfl, ↓bt1 n00, ↓bt2 n00, ↓bf1 n10, ↓bf2 n10, ↓an_sz0, ↓an_sz1, ↓an_sz2, ↓an_sz3, ↓an_sz4, ↓an_ri, ↓an_rb0, ↓an_rb1, ↓an_b0, ↓an_b1, true_and, ↓ai_0s, ↓al_0s, ↓av_0s, ↓aq_0s, ↓ai_1s, ↓al_1s, ↓av_1s, ↓aq_1s, ↓ai_2s, ↓al_2s, ↓av_2s, ↓aq_2s, ↓ai_3s, ↓al_3s, ↓av_3s, ↓aq_3s, ↓ai_4s, ↓al_4s, ↓av_4s, ↓aq_4s, ↓ai_5s, ↓al_5s, ↓av_5s, ↓aq_5s, ↓ai_6s, ↓al_6s, ↓av_6s, ↓aq_6s, ↓ai_7s, ↓al_7s, ↓av_7s, ↓aq_7s, ↓an_l4, ↓bk_50, ↓Sg_2, ↓kp_50_20, ↓an_t hc0, ↓an_rv hc0, ↓oW_e hc1, ↓bt1 hc2, ↓bt2 hc2]
      rw [oW_some] at hs
      exact hs
    · replace hs := bW_f hs hc2
      simp only [↓hG, ↓hJf, ↓px_vc, ↓px_ex, ↓px_jp, ↓px_gi, ↓px_gl, ↓px_gr, ↓px_s1, ↓px_s2, ↓px_nl, ↓px_i1, ↓px_l1, ↓r1_s, ↓px_q1, ↓px_i2, ↓px_l2, ↓px_il, ↓px_d0, ↓px_d1, ↓px_d2, ↓px_pop, ↓px_sp, ↓px_rd, ↓px_rf, ↓pn_xf, ↓px_pt, ↓px_sw, ↓pn_SW, ↓px_ma, ↓reduceIte, Nat.reduceEqDiff, Nat.reduceAdd, Nat.reduceSub, ↓Option.toList_some, ↓Option.toList_none, ↓List.cons_append, ↓List.nil_append, ↓kI_s, ↓kJ_s, ↓kN_s, ↓kO_s, ↓kZ_s, ↓kE_s, ↓an_rfl, ↓bt1 n00, ↓bt2 n00, ↓bf1 n10, ↓bf2 n10, ↓an_sz0, ↓an_sz1, ↓an_sz2, ↓an_sz3, ↓an_sz4, ↓an_ri, ↓an_rb0, ↓an_rb1, ↓an_b0, ↓an_b1, true_and, ↓ai_0s, ↓al_0s, ↓av_0s, ↓aq_0s, ↓ai_1s, ↓al_1s, ↓av_1s, ↓aq_1s, ↓ai_2s, ↓al_2s, ↓av_2s, ↓aq_2s, ↓ai_3s, ↓al_3s, ↓av_3s, ↓aq_3s, ↓ai_4s, ↓al_4s, ↓av_4s, ↓aq_4s, ↓ai_5s, ↓al_5s, ↓av_5s, ↓aq_5s, ↓ai_6s, ↓al_6s, ↓av_6s, ↓aq_6s, ↓ai_7s, ↓al_7s, ↓av_7s, ↓aq_7s, ↓an_l4, ↓bk_50, ↓Sg_2, ↓kp_50_20, ↓an_t hc0, ↓an_rv hc0, ↓oW_e hc1, ↓bf1 hc2, ↓bf2 hc2]
      exact hs
def Sg_51 (g : px_M → Nat → Option (Int32 × px_M)) : px_S := fun av σ k => av_0 av (fun x0 av => av = [] ∧ oW (g σ x0) (fun q => k (some (.inl q.1)) q.2))
/-- NoThreeModel.breaches()I -/
noncomputable def f_51_50 (tab : px_T) (σ : px_M) (x0 : Nat) (x1 : Int32) (x2 : Int32) (x3 : Int32) : Option ((Int32 × Int32 × px_M) ⊕ ((Int32 × Int32 × px_M) ⊕ (Int32 × px_M))) := some (.inl ((x1, (x3 + (nI 1)), σ)))
noncomputable def F_51_21 (tab : px_T) (x0 : Nat) (x2 : Int32) (x1 : Int32) (x3 : Int32) (σ : px_M) : Option ((Int32 × Int32 × px_M) ⊕ ((Int32 × Int32 × px_M) ⊕ (Int32 × px_M))) := gd (px_obj (px_lay tab x0) 0) ((((σ).2.2 x0 1)).bind fun n1 => oA (px_lay tab n1) fun t2 l3 => gd (t2 = 0 ∨ t2 = 11) (gd (vp_in (nI 158) l3) (if (px_av t2 σ n1 ((nI 158)).toNatClampNeg) ≤ x3 then (some (.inr (.inl ((x1, (x2 + (nI 1)), σ))))) else ((f_48 tab σ x0 x3 x2).bind fun q4 => if q4.1 = nI 0 then (f_51_50 tab q4.2 x0 ((x1 + (nI 1))) x2 x3) else (f_51_50 tab q4.2 x0 ((x1 + (nI 0))) x2 x3)))))
noncomputable def f_51_21 (tab : px_T) (x0 : Nat) (x2 : Int32) (x1 : Int32) (x3 : Int32) (σ : px_M) : Option ((Int32 × Int32 × px_M) ⊕ (Int32 × px_M)) := lpO (fun s : Int32 × Int32 × px_M => F_51_21 tab x0 x2 s.1 s.2.1 s.2.2) (x1, x3, σ)
theorem f_51_21_eq (tab : px_T) (x0 : Nat) (x2 : Int32) (x1 : Int32) (x3 : Int32) (σ : px_M) : f_51_21 tab x0 x2 x1 x3 σ = (F_51_21 tab x0 x2 x1 x3 σ).bind (Sum.elim (fun s => f_51_21 tab x0 x2 s.1 s.2.1 s.2.2) some) := lpO_eq _ _
noncomputable def F_51_9 (tab : px_T) (x0 : Nat) (x1 : Int32) (x2 : Int32) (σ : px_M) : Option ((Int32 × Int32 × px_M) ⊕ (Int32 × px_M)) := gd (px_obj (px_lay tab x0) 0) ((((σ).2.2 x0 1)).bind fun n1 => oA (px_lay tab n1) fun t2 l3 => gd (t2 = 0 ∨ t2 = 11) (gd (vp_in (nI 1) l3) (if (px_av t2 σ n1 ((nI 1)).toNatClampNeg) ≤ x2 then (some (.inr ((x1, σ)))) else (f_51_21 tab x0 x2 x1 ((nI 0)) σ))))
noncomputable def f_51_9 (tab : px_T) (x0 : Nat) (x1 : Int32) (x2 : Int32) (σ : px_M) : Option (Int32 × px_M) := lpO (fun s : Int32 × Int32 × px_M => F_51_9 tab x0 s.1 s.2.1 s.2.2) (x1, x2, σ)
theorem f_51_9_eq (tab : px_T) (x0 : Nat) (x1 : Int32) (x2 : Int32) (σ : px_M) : f_51_9 tab x0 x1 x2 σ = (F_51_9 tab x0 x1 x2 σ).bind (Sum.elim (fun s => f_51_9 tab x0 s.1 s.2.1 s.2.2) some) := lpO_eq _ _
noncomputable def f_51 (tab : px_T) (σ : px_M) (x0 : Nat) : Option (Int32 × px_M) := gd (px_obj (px_lay tab x0) 0) (f_51_9 tab x0 ((nI 0)) ((nI 0)) ((px_wi σ x0 0 (nI 0))))
def kp_51_50 (Q : Nat → Int32 → Int32 → Int32 → px_M → Prop) : px_P := fun ls st τ => st = [] ∧ kN ls (fun x0 ls => kI ls (fun x1 ls => kI ls (fun x2 ls => kI ls (fun x3 ls => kE ls (Q x0 x1 x2 x3 τ)))))
theorem kq_51_50 {C : px_C} {k : Option px_V → px_M → Prop} {Q : Nat → Int32 → Int32 → Int32 → px_M → Prop} (H : ∀ (x0 : Nat) (x1 : Int32) (x2 : Int32) (x3 : Int32) (τ : px_M), Q x0 x1 x2 x3 τ → px_W C k 50 [some (.inr (.inr (some x0))), some (.inl x1), some (.inl x2), some (.inl x3)] [] τ) : ∀ ls st τ, kp_51_50 Q ls st τ → px_W C k 50 ls st τ := by
  intro ls st τ hz
  obtain ⟨ez, h0⟩ := hz
  obtain ⟨x0, l0, e0, h1⟩ := kN_sp h0
  obtain ⟨x1, l1, e1, h2⟩ := kI_sp h1
  obtain ⟨x2, l2, e2, h3⟩ := kI_sp h2
  obtain ⟨x3, l3, e3, h4⟩ := kI_sp h3
  obtain ⟨ey, hy⟩ := kE_sp h4
  subst ez
  subst ey
  subst e3
  subst e2
  subst e1
  subst e0
  exact H x0 x1 x2 x3 τ hy
def kp_51_21 (Q : Nat → Int32 → Int32 → Int32 → px_M → Prop) : px_P := fun ls st τ => st = [] ∧ kN ls (fun x0 ls => kI ls (fun x1 ls => kI ls (fun x2 ls => kI ls (fun x3 ls => kE ls (Q x0 x1 x2 x3 τ)))))
theorem kq_51_21 {C : px_C} {k : Option px_V → px_M → Prop} {Q : Nat → Int32 → Int32 → Int32 → px_M → Prop} (H : ∀ (x0 : Nat) (x1 : Int32) (x2 : Int32) (x3 : Int32) (τ : px_M), Q x0 x1 x2 x3 τ → px_W C k 21 [some (.inr (.inr (some x0))), some (.inl x1), some (.inl x2), some (.inl x3)] [] τ) : ∀ ls st τ, kp_51_21 Q ls st τ → px_W C k 21 ls st τ := by
  intro ls st τ hz
  obtain ⟨ez, h0⟩ := hz
  obtain ⟨x0, l0, e0, h1⟩ := kN_sp h0
  obtain ⟨x1, l1, e1, h2⟩ := kI_sp h1
  obtain ⟨x2, l2, e2, h3⟩ := kI_sp h2
  obtain ⟨x3, l3, e3, h4⟩ := kI_sp h3
  obtain ⟨ey, hy⟩ := kE_sp h4
  subst ez
  subst ey
  subst e3
  subst e2
  subst e1
  subst e0
  exact H x0 x1 x2 x3 τ hy
def kp_51_9 (Q : Nat → Int32 → Int32 → px_M → Prop) : px_P := fun ls st τ => st = [] ∧ kN ls (fun x0 ls => kI ls (fun x1 ls => kI ls (fun x2 ls => kZ ls (fun ls => kE ls (Q x0 x1 x2 τ)))))
theorem kq_51_9 {C : px_C} {k : Option px_V → px_M → Prop} {Q : Nat → Int32 → Int32 → px_M → Prop} (H : ∀ (x0 : Nat) (x1 : Int32) (x2 : Int32) (τ : px_M), Q x0 x1 x2 τ → ∀ (z3 : Option px_V), px_W C k 9 [some (.inr (.inr (some x0))), some (.inl x1), some (.inl x2), z3] [] τ) : ∀ ls st τ, kp_51_9 Q ls st τ → px_W C k 9 ls st τ := by
  intro ls st τ hz
  obtain ⟨ez, h0⟩ := hz
  obtain ⟨x0, l0, e0, h1⟩ := kN_sp h0
  obtain ⟨x1, l1, e1, h2⟩ := kI_sp h1
  obtain ⟨x2, l2, e2, h3⟩ := kI_sp h2
  obtain ⟨z3, l3, e3, h4⟩ := kZ_sp h3
  obtain ⟨ey, hy⟩ := kE_sp h4
  subst ez
  subst ey
  subst e3
  subst e2
  subst e1
  subst e0
  exact H x0 x1 x2 τ hy z3
set_option maxHeartbeats 4000000 in
set_option maxRecDepth 100000 in
theorem rl_51_50 {C : px_C} (hn : px_nd (px_tb C)) {h : Nat} (hh : 30 ≤ h) (hC : px_ok C pn_i51 h) {k : Option px_V → px_M → Prop} {x0 : Nat} {x1 : Int32} {x2 : Int32} {x3 : Int32} {σ : px_M} (hs : oW (f_51_50 (px_tb C) σ x0 x1 x2 x3) (Sum.elim (fun s : Int32 × Int32 × px_M => px_W C k 21 [some (.inr (.inr (some x0))), some (.inl s.1), some (.inl x2), some (.inl s.2.1)] [] s.2.2) (Sum.elim (fun s : Int32 × Int32 × px_M => ∀ (z3 : Option px_V), px_W C k 9 [some (.inr (.inr (some x0))), some (.inl s.1), some (.inl s.2.1), z3] [] s.2.2) (fun q => k (some (.inl q.1)) q.2)))) : px_W C k 50 [some (.inr (.inr (some x0))), some (.inl x1), some (.inl x2), some (.inl x3)] [] σ := by
  refine px_runH (h - 1) ck_51 [] [(21, kp_51_21 (fun y0 y1 y2 y3 τ => y0 = x0 ∧ y2 = x2 ∧ (fun s : Int32 × Int32 × px_M => px_W C k 21 [some (.inr (.inr (some x0))), some (.inl s.1), some (.inl x2), some (.inl s.2.1)] [] s.2.2) (y1, y3, τ)))] 80 4 (some .int) rfl rfl hC px_nosp (by omega) (px_cut1 (kq_51_21 (fun y0 y1 y2 y3 τ hq => by obtain ⟨rfl, rfl, hq⟩ := hq; exact hq)) px_nocut) (fun G Jf hG hJf => ?_)
  unfold f_51_50 at hs
  simp only [↓hG, ↓hJf, ↓px_vc, ↓px_ex, ↓px_jp, ↓px_gi, ↓px_gl, ↓px_gr, ↓px_s1, ↓px_s2, ↓px_nl, ↓px_i1, ↓px_l1, ↓r1_s, ↓px_q1, ↓px_i2, ↓px_l2, ↓px_il, ↓px_d0, ↓px_d1, ↓px_d2, ↓px_pop, ↓px_sp, ↓px_rd, ↓px_rf, ↓pn_xf, ↓px_pt, ↓px_sw, ↓pn_SW, ↓px_ma, ↓reduceIte, Nat.reduceEqDiff, Nat.reduceAdd, Nat.reduceSub, ↓Option.toList_some, ↓Option.toList_none, ↓List.cons_append, ↓List.nil_append, ↓kI_s, ↓kJ_s, ↓kN_s, ↓kO_s, ↓kZ_s, ↓kE_s, ↓an_rfl, ↓bt1 n00, ↓bt2 n00, ↓bf1 n10, ↓bf2 n10, ↓an_sz0, ↓an_sz1, ↓an_sz2, ↓an_sz3, ↓an_sz4, ↓an_ri, ↓an_rb0, ↓an_rb1, ↓an_b0, ↓an_b1, true_and, ↓ai_0s, ↓al_0s, ↓av_0s, ↓aq_0s, ↓ai_1s, ↓al_1s, ↓av_1s, ↓aq_1s, ↓ai_2s, ↓al_2s, ↓av_2s, ↓aq_2s, ↓ai_3s, ↓al_3s, ↓av_3s, ↓aq_3s, ↓ai_4s, ↓al_4s, ↓av_4s, ↓aq_4s, ↓ai_5s, ↓al_5s, ↓av_5s, ↓aq_5s, ↓ai_6s, ↓al_6s, ↓av_6s, ↓aq_6s, ↓ai_7s, ↓al_7s, ↓av_7s, ↓aq_7s, ↓an_l4, ↓bk_51, ↓kp_51_21]
  rw [oW_some] at hs
  exact hs
set_option maxHeartbeats 4000000 in
set_option maxRecDepth 100000 in
theorem rl_51_21 {C : px_C} (hn : px_nd (px_tb C)) {h : Nat} (hh : 30 ≤ h) (hC : px_ok C pn_i51 h) {k : Option px_V → px_M → Prop} {x0 : Nat} {x2 : Int32} : ∀ s : Int32 × Int32 × px_M, oW (f_51_21 (px_tb C) x0 x2 s.1 s.2.1 s.2.2) (Sum.elim (fun s : Int32 × Int32 × px_M => ∀ (z3 : Option px_V), px_W C k 9 [some (.inr (.inr (some x0))), some (.inl s.1), some (.inl s.2.1), z3] [] s.2.2) (fun q => k (some (.inl q.1)) q.2)) → (fun s : Int32 × Int32 × px_M => px_W C k 21 [some (.inr (.inr (some x0))), some (.inl s.1), some (.inl x2), some (.inl s.2.1)] [] s.2.2) s := by
  intro s h0
  refine lpO_sound (P := (fun s : Int32 × Int32 × px_M => px_W C k 21 [some (.inr (.inr (some x0))), some (.inl s.1), some (.inl x2), some (.inl s.2.1)] [] s.2.2)) (fun s hs => ?_) h0
  obtain ⟨x1, x3, σ⟩ := s
  refine px_runH (h - 1) ck_51 [(48, Sg_48 (f_48 (px_tb C)))] [(9, kp_51_9 (fun y0 y1 y2 τ => y0 = x0 ∧ (fun s : Int32 × Int32 × px_M => ∀ (z3 : Option px_V), px_W C k 9 [some (.inr (.inr (some x0))), some (.inl s.1), some (.inl s.2.1), z3] [] s.2.2) (y1, y2, τ))), (50, kp_51_50 (fun y0 y1 y2 y3 τ => y0 = x0 ∧ y2 = x2 ∧ oW (f_51_50 (px_tb C) τ y0 y1 y2 y3) (Sum.elim (fun s : Int32 × Int32 × px_M => px_W C k 21 [some (.inr (.inr (some x0))), some (.inl s.1), some (.inl x2), some (.inl s.2.1)] [] s.2.2) (Sum.elim (fun s : Int32 × Int32 × px_M => ∀ (z3 : Option px_V), px_W C k 9 [some (.inr (.inr (some x0))), some (.inl s.1), some (.inl s.2.1), z3] [] s.2.2) (fun q => k (some (.inl q.1)) q.2)))))] 80 4 (some .int) rfl rfl hC (px_sp1 (mf_48 hn (by omega)) px_nosp) (by omega) (px_cut1 (kq_51_9 (fun y0 y1 y2 τ hq => by obtain ⟨rfl, hq⟩ := hq; exact hq)) (px_cut1 (kq_51_50 (fun y0 y1 y2 y3 τ hq => by obtain ⟨rfl, rfl, hq⟩ := hq; exact rl_51_50 hn (by omega) hC  hq)) px_nocut)) (fun G Jf hG hJf => ?_)
  replace hs : oW (F_51_21 (px_tb C) x0 x2 x1 x3 σ) _ := hs
  unfold F_51_21 at hs
  obtain ⟨hc0, hs⟩ := oW_gx hs
  obtain ⟨n1, hc1, hs⟩ := oW_bx hs
  obtain ⟨t2, l3, hc2, hs⟩ := oW_ax hs
  obtain ⟨hc3, hs⟩ := oW_gx hs
  obtain ⟨hc4, hs⟩ := oW_gx hs
  by_cases hc5 : (px_av t2 σ n1 ((nI 158)).toNatClampNeg) ≤ x3
  · replace hs := oW_t hs hc5
    simp only [↓hG, ↓hJf, ↓px_vc, ↓px_ex, ↓px_jp, ↓px_gi, ↓px_gl, ↓px_gr, ↓px_s1, ↓px_s2, ↓px_nl, ↓px_i1, ↓px_l1, ↓r1_s, ↓px_q1, ↓px_i2, ↓px_l2, ↓px_il, ↓px_d0, ↓px_d1, ↓px_d2, ↓px_pop, ↓px_sp, ↓px_rd, ↓px_rf, ↓pn_xf, ↓px_pt, ↓px_sw, ↓pn_SW, ↓px_ma, ↓reduceIte, Nat.reduceEqDiff, Nat.reduceAdd, Nat.reduceSub, ↓Option.toList_some, ↓Option.toList_none, ↓List.cons_append, ↓List.nil_append, ↓kI_s, ↓kJ_s, ↓kN_s, ↓kO_s, ↓kZ_s, ↓kE_s, ↓an_rfl, ↓bt1 n00, ↓bt2 n00, ↓bf1 n10, ↓bf2 n10, ↓an_sz0, ↓an_sz1, ↓an_sz2, ↓an_sz3, ↓an_sz4, ↓an_ri, ↓an_rb0, ↓an_rb1, ↓an_b0, ↓an_b1, true_and, ↓ai_0s, ↓al_0s, ↓av_0s, ↓aq_0s, ↓ai_1s, ↓al_1s, ↓av_1s, ↓aq_1s, ↓ai_2s, ↓al_2s, ↓av_2s, ↓aq_2s, ↓ai_3s, ↓al_3s, ↓av_3s, ↓aq_3s, ↓ai_4s, ↓al_4s, ↓av_4s, ↓aq_4s, ↓ai_5s, ↓al_5s, ↓av_5s, ↓aq_5s, ↓ai_6s, ↓al_6s, ↓av_6s, ↓aq_6s, ↓ai_7s, ↓al_7s, ↓av_7s, ↓aq_7s, ↓an_l4, ↓bk_51, ↓Sg_48, ↓kp_51_9, ↓kp_51_50, ↓an_t hc0, ↓an_rv hc0, ↓r1_e hc1, ↓av_0e hc1, ↓av_1e hc1, ↓av_2e hc1, ↓av_3e hc1, ↓ar_e hc2, ↓an_t hc3, ↓an_t hc4, ↓bt1 hc5, ↓bt2 hc5]
    rw [oW_some] at hs
    exact hs
  · replace hs := oW_f hs hc5
    obtain ⟨q4, hc6, hs⟩ := oW_bx hs
    by_cases hc7 : q4.1 = nI 0
    · replace hs := oW_t hs hc7
      simp only [↓hG, ↓hJf, ↓px_vc, ↓px_ex, ↓px_jp, ↓px_gi, ↓px_gl, ↓px_gr, ↓px_s1, ↓px_s2, ↓px_nl, ↓px_i1, ↓px_l1, ↓r1_s, ↓px_q1, ↓px_i2, ↓px_l2, ↓px_il, ↓px_d0, ↓px_d1, ↓px_d2, ↓px_pop, ↓px_sp, ↓px_rd, ↓px_rf, ↓pn_xf, ↓px_pt, ↓px_sw, ↓pn_SW, ↓px_ma, ↓reduceIte, Nat.reduceEqDiff, Nat.reduceAdd, Nat.reduceSub, ↓Option.toList_some, ↓Option.toList_none, ↓List.cons_append, ↓List.nil_append, ↓kI_s, ↓kJ_s, ↓kN_s, ↓kO_s, ↓kZ_s, ↓kE_s, ↓an_rfl, ↓bt1 n00, ↓bt2 n00, ↓bf1 n10, ↓bf2 n10, ↓an_sz0, ↓an_sz1, ↓an_sz2, ↓an_sz3, ↓an_sz4, ↓an_ri, ↓an_rb0, ↓an_rb1, ↓an_b0, ↓an_b1, true_and, ↓ai_0s, ↓al_0s, ↓av_0s, ↓aq_0s, ↓ai_1s, ↓al_1s, ↓av_1s, ↓aq_1s, ↓ai_2s, ↓al_2s, ↓av_2s, ↓aq_2s, ↓ai_3s, ↓al_3s, ↓av_3s, ↓aq_3s, ↓ai_4s, ↓al_4s, ↓av_4s, ↓aq_4s, ↓ai_5s, ↓al_5s, ↓av_5s, ↓aq_5s, ↓ai_6s, ↓al_6s, ↓av_6s, ↓aq_6s, ↓ai_7s, ↓al_7s, ↓av_7s, ↓aq_7s, ↓an_l4, ↓bk_51, ↓Sg_48, ↓kp_51_9, ↓kp_51_50, ↓an_t hc0, ↓an_rv hc0, ↓r1_e hc1, ↓av_0e hc1, ↓av_1e hc1, ↓av_2e hc1, ↓av_3e hc1, ↓ar_e hc2, ↓an_t hc3, ↓an_t hc4, ↓bf1 hc5, ↓bf2 hc5, ↓oW_e hc6, ↓bt1 hc7, ↓bt2 hc7]
      exact hs
    · replace hs := oW_f hs hc7
      simp only [↓hG, ↓hJf, ↓px_vc, ↓px_ex, ↓px_jp, ↓px_gi, ↓px_gl, ↓px_gr, ↓px_s1, ↓px_s2, ↓px_nl, ↓px_i1, ↓px_l1, ↓r1_s, ↓px_q1, ↓px_i2, ↓px_l2, ↓px_il, ↓px_d0, ↓px_d1, ↓px_d2, ↓px_pop, ↓px_sp, ↓px_rd, ↓px_rf, ↓pn_xf, ↓px_pt, ↓px_sw, ↓pn_SW, ↓px_ma, ↓reduceIte, Nat.reduceEqDiff, Nat.reduceAdd, Nat.reduceSub, ↓Option.toList_some, ↓Option.toList_none, ↓List.cons_append, ↓List.nil_append, ↓kI_s, ↓kJ_s, ↓kN_s, ↓kO_s, ↓kZ_s, ↓kE_s, ↓an_rfl, ↓bt1 n00, ↓bt2 n00, ↓bf1 n10, ↓bf2 n10, ↓an_sz0, ↓an_sz1, ↓an_sz2, ↓an_sz3, ↓an_sz4, ↓an_ri, ↓an_rb0, ↓an_rb1, ↓an_b0, ↓an_b1, true_and, ↓ai_0s, ↓al_0s, ↓av_0s, ↓aq_0s, ↓ai_1s, ↓al_1s, ↓av_1s, ↓aq_1s, ↓ai_2s, ↓al_2s, ↓av_2s, ↓aq_2s, ↓ai_3s, ↓al_3s, ↓av_3s, ↓aq_3s, ↓ai_4s, ↓al_4s, ↓av_4s, ↓aq_4s, ↓ai_5s, ↓al_5s, ↓av_5s, ↓aq_5s, ↓ai_6s, ↓al_6s, ↓av_6s, ↓aq_6s, ↓ai_7s, ↓al_7s, ↓av_7s, ↓aq_7s, ↓an_l4, ↓bk_51, ↓Sg_48, ↓kp_51_9, ↓kp_51_50, ↓an_t hc0, ↓an_rv hc0, ↓r1_e hc1, ↓av_0e hc1, ↓av_1e hc1, ↓av_2e hc1, ↓av_3e hc1, ↓ar_e hc2, ↓an_t hc3, ↓an_t hc4, ↓bf1 hc5, ↓bf2 hc5, ↓oW_e hc6, ↓bf1 hc7, ↓bf2 hc7]
      exact hs
set_option maxHeartbeats 4000000 in
set_option maxRecDepth 100000 in
theorem rl_51_9 {C : px_C} (hn : px_nd (px_tb C)) {h : Nat} (hh : 30 ≤ h) (hC : px_ok C pn_i51 h) {k : Option px_V → px_M → Prop} {x0 : Nat} : ∀ s : Int32 × Int32 × px_M, oW (f_51_9 (px_tb C) x0 s.1 s.2.1 s.2.2) (fun q => k (some (.inl q.1)) q.2) → (fun s : Int32 × Int32 × px_M => ∀ (z3 : Option px_V), px_W C k 9 [some (.inr (.inr (some x0))), some (.inl s.1), some (.inl s.2.1), z3] [] s.2.2) s := by
  intro s h0
  refine lpO_sound (P := (fun s : Int32 × Int32 × px_M => ∀ (z3 : Option px_V), px_W C k 9 [some (.inr (.inr (some x0))), some (.inl s.1), some (.inl s.2.1), z3] [] s.2.2)) (fun s hs => ?_) h0
  obtain ⟨x1, x2, σ⟩ := s
  intro z3
  refine px_runH (h - 1) ck_51 [] [(21, kp_51_21 (fun y0 y1 y2 y3 τ => y0 = x0 ∧ oW (f_51_21 (px_tb C) y0 y2 y1 y3 τ) (Sum.elim (fun s : Int32 × Int32 × px_M => ∀ (z3 : Option px_V), px_W C k 9 [some (.inr (.inr (some x0))), some (.inl s.1), some (.inl s.2.1), z3] [] s.2.2) (fun q => k (some (.inl q.1)) q.2))))] 80 4 (some .int) rfl rfl hC px_nosp (by omega) (px_cut1 (kq_51_21 (fun y0 y1 y2 y3 τ hq => by obtain ⟨rfl, hq⟩ := hq; exact rl_51_21 hn (by omega) hC (y1, y3, τ) hq)) px_nocut) (fun G Jf hG hJf => ?_)
  replace hs : oW (F_51_9 (px_tb C) x0 x1 x2 σ) _ := hs
  unfold F_51_9 at hs
  obtain ⟨hc0, hs⟩ := oW_gx hs
  obtain ⟨n1, hc1, hs⟩ := oW_bx hs
  obtain ⟨t2, l3, hc2, hs⟩ := oW_ax hs
  obtain ⟨hc3, hs⟩ := oW_gx hs
  obtain ⟨hc4, hs⟩ := oW_gx hs
  by_cases hc5 : (px_av t2 σ n1 ((nI 1)).toNatClampNeg) ≤ x2
  · replace hs := oW_t hs hc5
    simp only [↓hG, ↓hJf, ↓px_vc, ↓px_ex, ↓px_jp, ↓px_gi, ↓px_gl, ↓px_gr, ↓px_s1, ↓px_s2, ↓px_nl, ↓px_i1, ↓px_l1, ↓r1_s, ↓px_q1, ↓px_i2, ↓px_l2, ↓px_il, ↓px_d0, ↓px_d1, ↓px_d2, ↓px_pop, ↓px_sp, ↓px_rd, ↓px_rf, ↓pn_xf, ↓px_pt, ↓px_sw, ↓pn_SW, ↓px_ma, ↓reduceIte, Nat.reduceEqDiff, Nat.reduceAdd, Nat.reduceSub, ↓Option.toList_some, ↓Option.toList_none, ↓List.cons_append, ↓List.nil_append, ↓kI_s, ↓kJ_s, ↓kN_s, ↓kO_s, ↓kZ_s, ↓kE_s, ↓an_rfl, ↓bt1 n00, ↓bt2 n00, ↓bf1 n10, ↓bf2 n10, ↓an_sz0, ↓an_sz1, ↓an_sz2, ↓an_sz3, ↓an_sz4, ↓an_ri, ↓an_rb0, ↓an_rb1, ↓an_b0, ↓an_b1, true_and, ↓ai_0s, ↓al_0s, ↓av_0s, ↓aq_0s, ↓ai_1s, ↓al_1s, ↓av_1s, ↓aq_1s, ↓ai_2s, ↓al_2s, ↓av_2s, ↓aq_2s, ↓ai_3s, ↓al_3s, ↓av_3s, ↓aq_3s, ↓ai_4s, ↓al_4s, ↓av_4s, ↓aq_4s, ↓ai_5s, ↓al_5s, ↓av_5s, ↓aq_5s, ↓ai_6s, ↓al_6s, ↓av_6s, ↓aq_6s, ↓ai_7s, ↓al_7s, ↓av_7s, ↓aq_7s, ↓an_l4, ↓bk_51, ↓kp_51_21, ↓an_t hc0, ↓an_rv hc0, ↓r1_e hc1, ↓av_0e hc1, ↓av_1e hc1, ↓av_2e hc1, ↓av_3e hc1, ↓ar_e hc2, ↓an_t hc3, ↓an_t hc4, ↓bt1 hc5, ↓bt2 hc5]
    rw [oW_some] at hs
    exact hs
  · replace hs := oW_f hs hc5
    simp only [↓hG, ↓hJf, ↓px_vc, ↓px_ex, ↓px_jp, ↓px_gi, ↓px_gl, ↓px_gr, ↓px_s1, ↓px_s2, ↓px_nl, ↓px_i1, ↓px_l1, ↓r1_s, ↓px_q1, ↓px_i2, ↓px_l2, ↓px_il, ↓px_d0, ↓px_d1, ↓px_d2, ↓px_pop, ↓px_sp, ↓px_rd, ↓px_rf, ↓pn_xf, ↓px_pt, ↓px_sw, ↓pn_SW, ↓px_ma, ↓reduceIte, Nat.reduceEqDiff, Nat.reduceAdd, Nat.reduceSub, ↓Option.toList_some, ↓Option.toList_none, ↓List.cons_append, ↓List.nil_append, ↓kI_s, ↓kJ_s, ↓kN_s, ↓kO_s, ↓kZ_s, ↓kE_s, ↓an_rfl, ↓bt1 n00, ↓bt2 n00, ↓bf1 n10, ↓bf2 n10, ↓an_sz0, ↓an_sz1, ↓an_sz2, ↓an_sz3, ↓an_sz4, ↓an_ri, ↓an_rb0, ↓an_rb1, ↓an_b0, ↓an_b1, true_and, ↓ai_0s, ↓al_0s, ↓av_0s, ↓aq_0s, ↓ai_1s, ↓al_1s, ↓av_1s, ↓aq_1s, ↓ai_2s, ↓al_2s, ↓av_2s, ↓aq_2s, ↓ai_3s, ↓al_3s, ↓av_3s, ↓aq_3s, ↓ai_4s, ↓al_4s, ↓av_4s, ↓aq_4s, ↓ai_5s, ↓al_5s, ↓av_5s, ↓aq_5s, ↓ai_6s, ↓al_6s, ↓av_6s, ↓aq_6s, ↓ai_7s, ↓al_7s, ↓av_7s, ↓aq_7s, ↓an_l4, ↓bk_51, ↓kp_51_21, ↓an_t hc0, ↓an_rv hc0, ↓r1_e hc1, ↓av_0e hc1, ↓av_1e hc1, ↓av_2e hc1, ↓av_3e hc1, ↓ar_e hc2, ↓an_t hc3, ↓an_t hc4, ↓bf1 hc5, ↓bf2 hc5]
    exact hs
set_option maxHeartbeats 4000000 in
set_option maxRecDepth 100000 in
theorem mf_51 {tab : px_T} (hn : px_nd tab) {h : Nat} (hh : 30 ≤ h) : px_Ok tab pn_i51 h (Sg_51 (f_51 tab)) := by
  refine px_mth hn (by decide +kernel) (fun av σ k hS => ?_) (fun C hT hC av σ k hS => ?_)
  · obtain ⟨x0, av0, e0, h0⟩ := av_0p hS
    obtain ⟨ez, hs⟩ := h0
    subst ez
    subst e0
    exact Nat.le_of_ble_eq_true rfl
  · obtain ⟨x0, av0, e0, h0⟩ := av_0p hS
    obtain ⟨ez, hs⟩ := h0
    subst ez
    subst e0
    subst hT
    show px_W C k 0 [some (.inr (.inr (some x0))), none, none, none] [] σ
    refine px_runH (h - 1) ck_51 [] [(9, kp_51_9 (fun y0 y1 y2 τ => oW (f_51_9 (px_tb C) y0 y1 y2 τ) (fun q => k (some (.inl q.1)) q.2)))] 80 4 (some .int) rfl rfl hC px_nosp (by omega) (px_cut1 (kq_51_9 (fun y0 y1 y2 τ hq => by exact rl_51_9 hn (by omega) hC (y1, y2, τ) hq)) px_nocut) (fun G Jf hG hJf => ?_)
    unfold f_51 at hs
    obtain ⟨hc0, hs⟩ := oW_gx hs
    simp only [↓hG, ↓hJf, ↓px_vc, ↓px_ex, ↓px_jp, ↓px_gi, ↓px_gl, ↓px_gr, ↓px_s1, ↓px_s2, ↓px_nl, ↓px_i1, ↓px_l1, ↓r1_s, ↓px_q1, ↓px_i2, ↓px_l2, ↓px_il, ↓px_d0, ↓px_d1, ↓px_d2, ↓px_pop, ↓px_sp, ↓px_rd, ↓px_rf, ↓pn_xf, ↓px_pt, ↓px_sw, ↓pn_SW, ↓px_ma, ↓reduceIte, Nat.reduceEqDiff, Nat.reduceAdd, Nat.reduceSub, ↓Option.toList_some, ↓Option.toList_none, ↓List.cons_append, ↓List.nil_append, ↓kI_s, ↓kJ_s, ↓kN_s, ↓kO_s, ↓kZ_s, ↓kE_s, ↓an_rfl, ↓bt1 n00, ↓bt2 n00, ↓bf1 n10, ↓bf2 n10, ↓an_sz0, ↓an_sz1, ↓an_sz2, ↓an_sz3, ↓an_sz4, ↓an_ri, ↓an_rb0, ↓an_rb1, ↓an_b0, ↓an_b1, true_and, ↓ai_0s, ↓al_0s, ↓av_0s, ↓aq_0s, ↓ai_1s, ↓al_1s, ↓av_1s, ↓aq_1s, ↓ai_2s, ↓al_2s, ↓av_2s, ↓aq_2s, ↓ai_3s, ↓al_3s, ↓av_3s, ↓aq_3s, ↓ai_4s, ↓al_4s, ↓av_4s, ↓aq_4s, ↓ai_5s, ↓al_5s, ↓av_5s, ↓aq_5s, ↓ai_6s, ↓al_6s, ↓av_6s, ↓aq_6s, ↓ai_7s, ↓al_7s, ↓av_7s, ↓aq_7s, ↓an_l4, ↓bk_51, ↓kp_51_9, ↓an_t hc0, ↓an_rv hc0]
    exact hs
def Sg_52 (g : px_M → Nat → Nat → Option (px_M)) : px_S := fun av σ k => av_0 av (fun x0 av => av_1 av (fun x1 av => av = [] ∧ oW (g σ x0 x1) (fun τ => k none τ)))
/-- NoThreeModel.keeps([I)V -/
noncomputable def F_52_2 (tab : px_T) (x0 : Nat) (x1 : Nat) (x2 : Int32) (σ : px_M) : Option ((Int32 × px_M) ⊕ (px_M)) := if (nI 12) ≤ x2 then (some (.inr (σ))) else (gd (px_obj (px_lay tab x0) 0) ((((σ).2.2 x0 1)).bind fun n1 => oA (px_lay tab n1) fun t2 l3 => gd (t2 = 0 ∨ t2 = 11) (gd (vp_in ((nI 1) + x2) l3) (oA (px_lay tab x1) fun t4 l5 => gd (t4 = 0) (gd (vp_in x2 l5) (some (.inl (((x2 + (nI 1)), (px_wi σ x1 (x2).toNatClampNeg (px_av t2 σ n1 (((nI 1) + x2)).toNatClampNeg)))))))))))
noncomputable def f_52_2 (tab : px_T) (x0 : Nat) (x1 : Nat) (x2 : Int32) (σ : px_M) : Option (px_M) := lpO (fun s : Int32 × px_M => F_52_2 tab x0 x1 s.1 s.2) (x2, σ)
theorem f_52_2_eq (tab : px_T) (x0 : Nat) (x1 : Nat) (x2 : Int32) (σ : px_M) : f_52_2 tab x0 x1 x2 σ = (F_52_2 tab x0 x1 x2 σ).bind (Sum.elim (fun s => f_52_2 tab x0 x1 s.1 s.2) some) := lpO_eq _ _
noncomputable def f_52 (tab : px_T) (σ : px_M) (x0 : Nat) (x1 : Nat) : Option (px_M) := f_52_2 tab x0 x1 ((nI 0)) σ
def kp_52_2 (Q : Nat → Nat → Int32 → px_M → Prop) : px_P := fun ls st τ => st = [] ∧ kN ls (fun x0 ls => kN ls (fun x1 ls => kI ls (fun x2 ls => kE ls (Q x0 x1 x2 τ))))
theorem kq_52_2 {C : px_C} {k : Option px_V → px_M → Prop} {Q : Nat → Nat → Int32 → px_M → Prop} (H : ∀ (x0 : Nat) (x1 : Nat) (x2 : Int32) (τ : px_M), Q x0 x1 x2 τ → px_W C k 2 [some (.inr (.inr (some x0))), some (.inr (.inr (some x1))), some (.inl x2)] [] τ) : ∀ ls st τ, kp_52_2 Q ls st τ → px_W C k 2 ls st τ := by
  intro ls st τ hz
  obtain ⟨ez, h0⟩ := hz
  obtain ⟨x0, l0, e0, h1⟩ := kN_sp h0
  obtain ⟨x1, l1, e1, h2⟩ := kN_sp h1
  obtain ⟨x2, l2, e2, h3⟩ := kI_sp h2
  obtain ⟨ey, hy⟩ := kE_sp h3
  subst ez
  subst ey
  subst e2
  subst e1
  subst e0
  exact H x0 x1 x2 τ hy
set_option maxHeartbeats 4000000 in
set_option maxRecDepth 100000 in
theorem rl_52_2 {C : px_C} (hn : px_nd (px_tb C)) {h : Nat} (hh : 1 ≤ h) (hC : px_ok C pn_i52 h) {k : Option px_V → px_M → Prop} {x0 : Nat} {x1 : Nat} : ∀ s : Int32 × px_M, oW (f_52_2 (px_tb C) x0 x1 s.1 s.2) (fun τ => k none τ) → (fun s : Int32 × px_M => px_W C k 2 [some (.inr (.inr (some x0))), some (.inr (.inr (some x1))), some (.inl s.1)] [] s.2) s := by
  intro s h0
  refine lpO_sound (P := (fun s : Int32 × px_M => px_W C k 2 [some (.inr (.inr (some x0))), some (.inr (.inr (some x1))), some (.inl s.1)] [] s.2)) (fun s hs => ?_) h0
  obtain ⟨x2, σ⟩ := s
  refine px_runH (h - 1) ck_52 [] [(2, kp_52_2 (fun y0 y1 y2 τ => y0 = x0 ∧ y1 = x1 ∧ (fun s : Int32 × px_M => px_W C k 2 [some (.inr (.inr (some x0))), some (.inr (.inr (some x1))), some (.inl s.1)] [] s.2) (y2, τ)))] 80 3 none rfl rfl hC px_nosp (by omega) (px_cut1 (kq_52_2 (fun y0 y1 y2 τ hq => by obtain ⟨rfl, rfl, hq⟩ := hq; exact hq)) px_nocut) (fun G Jf hG hJf => ?_)
  replace hs : oW (F_52_2 (px_tb C) x0 x1 x2 σ) _ := hs
  unfold F_52_2 at hs
  by_cases hc0 : (nI 12) ≤ x2
  · replace hs := oW_t hs hc0
    simp only [↓hG, ↓hJf, ↓px_vc, ↓px_ex, ↓px_jp, ↓px_gi, ↓px_gl, ↓px_gr, ↓px_s1, ↓px_s2, ↓px_nl, ↓px_i1, ↓px_l1, ↓r1_s, ↓px_q1, ↓px_i2, ↓px_l2, ↓px_il, ↓px_d0, ↓px_d1, ↓px_d2, ↓px_pop, ↓px_sp, ↓px_rd, ↓px_rf, ↓pn_xf, ↓px_pt, ↓px_sw, ↓pn_SW, ↓px_ma, ↓reduceIte, Nat.reduceEqDiff, Nat.reduceAdd, Nat.reduceSub, ↓Option.toList_some, ↓Option.toList_none, ↓List.cons_append, ↓List.nil_append, ↓kI_s, ↓kJ_s, ↓kN_s, ↓kO_s, ↓kZ_s, ↓kE_s, ↓an_rfl, ↓bt1 n00, ↓bt2 n00, ↓bf1 n10, ↓bf2 n10, ↓an_sz0, ↓an_sz1, ↓an_sz2, ↓an_sz3, ↓an_sz4, ↓an_ri, ↓an_rb0, ↓an_rb1, ↓an_b0, ↓an_b1, true_and, ↓ai_0s, ↓al_0s, ↓av_0s, ↓aq_0s, ↓ai_1s, ↓al_1s, ↓av_1s, ↓aq_1s, ↓ai_2s, ↓al_2s, ↓av_2s, ↓aq_2s, ↓ai_3s, ↓al_3s, ↓av_3s, ↓aq_3s, ↓ai_4s, ↓al_4s, ↓av_4s, ↓aq_4s, ↓ai_5s, ↓al_5s, ↓av_5s, ↓aq_5s, ↓ai_6s, ↓al_6s, ↓av_6s, ↓aq_6s, ↓ai_7s, ↓al_7s, ↓av_7s, ↓aq_7s, ↓an_l3, ↓bk_52, ↓kp_52_2, ↓bt1 hc0, ↓bt2 hc0]
    rw [oW_some] at hs
    exact hs
  · replace hs := oW_f hs hc0
    obtain ⟨hc1, hs⟩ := oW_gx hs
    obtain ⟨n1, hc2, hs⟩ := oW_bx hs
    obtain ⟨t2, l3, hc3, hs⟩ := oW_ax hs
    obtain ⟨hc4, hs⟩ := oW_gx hs
    obtain ⟨hc5, hs⟩ := oW_gx hs
    obtain ⟨t4, l5, hc6, hs⟩ := oW_ax hs
    obtain ⟨hc7, hs⟩ := oW_gx hs
    obtain ⟨hc8, hs⟩ := oW_gx hs
    simp only [↓hG, ↓hJf, ↓px_vc, ↓px_ex, ↓px_jp, ↓px_gi, ↓px_gl, ↓px_gr, ↓px_s1, ↓px_s2, ↓px_nl, ↓px_i1, ↓px_l1, ↓r1_s, ↓px_q1, ↓px_i2, ↓px_l2, ↓px_il, ↓px_d0, ↓px_d1, ↓px_d2, ↓px_pop, ↓px_sp, ↓px_rd, ↓px_rf, ↓pn_xf, ↓px_pt, ↓px_sw, ↓pn_SW, ↓px_ma, ↓reduceIte, Nat.reduceEqDiff, Nat.reduceAdd, Nat.reduceSub, ↓Option.toList_some, ↓Option.toList_none, ↓List.cons_append, ↓List.nil_append, ↓kI_s, ↓kJ_s, ↓kN_s, ↓kO_s, ↓kZ_s, ↓kE_s, ↓an_rfl, ↓bt1 n00, ↓bt2 n00, ↓bf1 n10, ↓bf2 n10, ↓an_sz0, ↓an_sz1, ↓an_sz2, ↓an_sz3, ↓an_sz4, ↓an_ri, ↓an_rb0, ↓an_rb1, ↓an_b0, ↓an_b1, true_and, ↓ai_0s, ↓al_0s, ↓av_0s, ↓aq_0s, ↓ai_1s, ↓al_1s, ↓av_1s, ↓aq_1s, ↓ai_2s, ↓al_2s, ↓av_2s, ↓aq_2s, ↓ai_3s, ↓al_3s, ↓av_3s, ↓aq_3s, ↓ai_4s, ↓al_4s, ↓av_4s, ↓aq_4s, ↓ai_5s, ↓al_5s, ↓av_5s, ↓aq_5s, ↓ai_6s, ↓al_6s, ↓av_6s, ↓aq_6s, ↓ai_7s, ↓al_7s, ↓av_7s, ↓aq_7s, ↓an_l3, ↓bk_52, ↓kp_52_2, ↓bf1 hc0, ↓bf2 hc0, ↓an_t hc1, ↓an_rv hc1, ↓r1_e hc2, ↓av_0e hc2, ↓av_1e hc2, ↓av_2e hc2, ↓av_3e hc2, ↓ar_e hc3, ↓an_t hc4, ↓an_t hc5, ↓ar_e hc6, ↓an_t hc7, ↓an_t hc8]
    rw [oW_some] at hs
    exact hs
set_option maxHeartbeats 4000000 in
set_option maxRecDepth 100000 in
theorem mf_52 {tab : px_T} (hn : px_nd tab) {h : Nat} (hh : 1 ≤ h) : px_Ok tab pn_i52 h (Sg_52 (f_52 tab)) := by
  refine px_mth hn (by decide +kernel) (fun av σ k hS => ?_) (fun C hT hC av σ k hS => ?_)
  · obtain ⟨x0, av0, e0, h0⟩ := av_0p hS
    obtain ⟨x1, av1, e1, h1⟩ := av_1p h0
    obtain ⟨ez, hs⟩ := h1
    subst ez
    subst e1
    subst e0
    exact Nat.le_of_ble_eq_true rfl
  · obtain ⟨x0, av0, e0, h0⟩ := av_0p hS
    obtain ⟨x1, av1, e1, h1⟩ := av_1p h0
    obtain ⟨ez, hs⟩ := h1
    subst ez
    subst e1
    subst e0
    subst hT
    show px_W C k 0 [some (.inr (.inr (some x0))), some (.inr (.inr (some x1))), none] [] σ
    refine px_runH (h - 1) ck_52 [] [(2, kp_52_2 (fun y0 y1 y2 τ => oW (f_52_2 (px_tb C) y0 y1 y2 τ) (fun τ => k none τ)))] 80 3 none rfl rfl hC px_nosp (by omega) (px_cut1 (kq_52_2 (fun y0 y1 y2 τ hq => by exact rl_52_2 hn (by omega) hC (y2, τ) hq)) px_nocut) (fun G Jf hG hJf => ?_)
    unfold f_52 at hs
    simp only [↓hG, ↓hJf, ↓px_vc, ↓px_ex, ↓px_jp, ↓px_gi, ↓px_gl, ↓px_gr, ↓px_s1, ↓px_s2, ↓px_nl, ↓px_i1, ↓px_l1, ↓r1_s, ↓px_q1, ↓px_i2, ↓px_l2, ↓px_il, ↓px_d0, ↓px_d1, ↓px_d2, ↓px_pop, ↓px_sp, ↓px_rd, ↓px_rf, ↓pn_xf, ↓px_pt, ↓px_sw, ↓pn_SW, ↓px_ma, ↓reduceIte, Nat.reduceEqDiff, Nat.reduceAdd, Nat.reduceSub, ↓Option.toList_some, ↓Option.toList_none, ↓List.cons_append, ↓List.nil_append, ↓kI_s, ↓kJ_s, ↓kN_s, ↓kO_s, ↓kZ_s, ↓kE_s, ↓an_rfl, ↓bt1 n00, ↓bt2 n00, ↓bf1 n10, ↓bf2 n10, ↓an_sz0, ↓an_sz1, ↓an_sz2, ↓an_sz3, ↓an_sz4, ↓an_ri, ↓an_rb0, ↓an_rb1, ↓an_b0, ↓an_b1, true_and, ↓ai_0s, ↓al_0s, ↓av_0s, ↓aq_0s, ↓ai_1s, ↓al_1s, ↓av_1s, ↓aq_1s, ↓ai_2s, ↓al_2s, ↓av_2s, ↓aq_2s, ↓ai_3s, ↓al_3s, ↓av_3s, ↓aq_3s, ↓ai_4s, ↓al_4s, ↓av_4s, ↓aq_4s, ↓ai_5s, ↓al_5s, ↓av_5s, ↓aq_5s, ↓ai_6s, ↓al_6s, ↓av_6s, ↓aq_6s, ↓ai_7s, ↓al_7s, ↓av_7s, ↓aq_7s, ↓an_l3, ↓bk_52, ↓kp_52_2]
    exact hs
def Sg_53 (g : px_M → Nat → Nat → Option (px_M)) : px_S := fun av σ k => av_0 av (fun x0 av => av_1 av (fun x1 av => av = [] ∧ oW (g σ x0 x1) (fun τ => k none τ)))
/-- NoThreeModel.isAgain([I)V -/
noncomputable def F_53_2 (tab : px_T) (x0 : Nat) (x1 : Nat) (x2 : Int32) (σ : px_M) : Option ((Int32 × px_M) ⊕ (px_M)) := if (nI 12) ≤ x2 then (some (.inr (σ))) else (gd (px_obj (px_lay tab x0) 0) (oA (px_lay tab x1) fun t1 l2 => gd (t1 = 0 ∨ t1 = 11) (gd (vp_in x2 l2) ((((σ).2.2 x0 1)).bind fun n3 => oA (px_lay tab n3) fun t4 l5 => gd (t4 = 0) (gd (vp_in ((nI 1) + x2) l5) (some (.inl (((x2 + (nI 1)), (px_wi σ n3 (((nI 1) + x2)).toNatClampNeg (px_av t1 σ x1 (x2).toNatClampNeg)))))))))))
noncomputable def f_53_2 (tab : px_T) (x0 : Nat) (x1 : Nat) (x2 : Int32) (σ : px_M) : Option (px_M) := lpO (fun s : Int32 × px_M => F_53_2 tab x0 x1 s.1 s.2) (x2, σ)
theorem f_53_2_eq (tab : px_T) (x0 : Nat) (x1 : Nat) (x2 : Int32) (σ : px_M) : f_53_2 tab x0 x1 x2 σ = (F_53_2 tab x0 x1 x2 σ).bind (Sum.elim (fun s => f_53_2 tab x0 x1 s.1 s.2) some) := lpO_eq _ _
noncomputable def f_53 (tab : px_T) (σ : px_M) (x0 : Nat) (x1 : Nat) : Option (px_M) := f_53_2 tab x0 x1 ((nI 0)) σ
def kp_53_2 (Q : Nat → Nat → Int32 → px_M → Prop) : px_P := fun ls st τ => st = [] ∧ kN ls (fun x0 ls => kN ls (fun x1 ls => kI ls (fun x2 ls => kE ls (Q x0 x1 x2 τ))))
theorem kq_53_2 {C : px_C} {k : Option px_V → px_M → Prop} {Q : Nat → Nat → Int32 → px_M → Prop} (H : ∀ (x0 : Nat) (x1 : Nat) (x2 : Int32) (τ : px_M), Q x0 x1 x2 τ → px_W C k 2 [some (.inr (.inr (some x0))), some (.inr (.inr (some x1))), some (.inl x2)] [] τ) : ∀ ls st τ, kp_53_2 Q ls st τ → px_W C k 2 ls st τ := by
  intro ls st τ hz
  obtain ⟨ez, h0⟩ := hz
  obtain ⟨x0, l0, e0, h1⟩ := kN_sp h0
  obtain ⟨x1, l1, e1, h2⟩ := kN_sp h1
  obtain ⟨x2, l2, e2, h3⟩ := kI_sp h2
  obtain ⟨ey, hy⟩ := kE_sp h3
  subst ez
  subst ey
  subst e2
  subst e1
  subst e0
  exact H x0 x1 x2 τ hy
set_option maxHeartbeats 4000000 in
set_option maxRecDepth 100000 in
theorem rl_53_2 {C : px_C} (hn : px_nd (px_tb C)) {h : Nat} (hh : 1 ≤ h) (hC : px_ok C pn_i53 h) {k : Option px_V → px_M → Prop} {x0 : Nat} {x1 : Nat} : ∀ s : Int32 × px_M, oW (f_53_2 (px_tb C) x0 x1 s.1 s.2) (fun τ => k none τ) → (fun s : Int32 × px_M => px_W C k 2 [some (.inr (.inr (some x0))), some (.inr (.inr (some x1))), some (.inl s.1)] [] s.2) s := by
  intro s h0
  refine lpO_sound (P := (fun s : Int32 × px_M => px_W C k 2 [some (.inr (.inr (some x0))), some (.inr (.inr (some x1))), some (.inl s.1)] [] s.2)) (fun s hs => ?_) h0
  obtain ⟨x2, σ⟩ := s
  refine px_runH (h - 1) ck_53 [] [(2, kp_53_2 (fun y0 y1 y2 τ => y0 = x0 ∧ y1 = x1 ∧ (fun s : Int32 × px_M => px_W C k 2 [some (.inr (.inr (some x0))), some (.inr (.inr (some x1))), some (.inl s.1)] [] s.2) (y2, τ)))] 80 3 none rfl rfl hC px_nosp (by omega) (px_cut1 (kq_53_2 (fun y0 y1 y2 τ hq => by obtain ⟨rfl, rfl, hq⟩ := hq; exact hq)) px_nocut) (fun G Jf hG hJf => ?_)
  replace hs : oW (F_53_2 (px_tb C) x0 x1 x2 σ) _ := hs
  unfold F_53_2 at hs
  by_cases hc0 : (nI 12) ≤ x2
  · replace hs := oW_t hs hc0
    simp only [↓hG, ↓hJf, ↓px_vc, ↓px_ex, ↓px_jp, ↓px_gi, ↓px_gl, ↓px_gr, ↓px_s1, ↓px_s2, ↓px_nl, ↓px_i1, ↓px_l1, ↓r1_s, ↓px_q1, ↓px_i2, ↓px_l2, ↓px_il, ↓px_d0, ↓px_d1, ↓px_d2, ↓px_pop, ↓px_sp, ↓px_rd, ↓px_rf, ↓pn_xf, ↓px_pt, ↓px_sw, ↓pn_SW, ↓px_ma, ↓reduceIte, Nat.reduceEqDiff, Nat.reduceAdd, Nat.reduceSub, ↓Option.toList_some, ↓Option.toList_none, ↓List.cons_append, ↓List.nil_append, ↓kI_s, ↓kJ_s, ↓kN_s, ↓kO_s, ↓kZ_s, ↓kE_s, ↓an_rfl, ↓bt1 n00, ↓bt2 n00, ↓bf1 n10, ↓bf2 n10, ↓an_sz0, ↓an_sz1, ↓an_sz2, ↓an_sz3, ↓an_sz4, ↓an_ri, ↓an_rb0, ↓an_rb1, ↓an_b0, ↓an_b1, true_and, ↓ai_0s, ↓al_0s, ↓av_0s, ↓aq_0s, ↓ai_1s, ↓al_1s, ↓av_1s, ↓aq_1s, ↓ai_2s, ↓al_2s, ↓av_2s, ↓aq_2s, ↓ai_3s, ↓al_3s, ↓av_3s, ↓aq_3s, ↓ai_4s, ↓al_4s, ↓av_4s, ↓aq_4s, ↓ai_5s, ↓al_5s, ↓av_5s, ↓aq_5s, ↓ai_6s, ↓al_6s, ↓av_6s, ↓aq_6s, ↓ai_7s, ↓al_7s, ↓av_7s, ↓aq_7s, ↓an_l3, ↓bk_53, ↓kp_53_2, ↓bt1 hc0, ↓bt2 hc0]
    rw [oW_some] at hs
    exact hs
  · replace hs := oW_f hs hc0
    obtain ⟨hc1, hs⟩ := oW_gx hs
    obtain ⟨t1, l2, hc2, hs⟩ := oW_ax hs
    obtain ⟨hc3, hs⟩ := oW_gx hs
    obtain ⟨hc4, hs⟩ := oW_gx hs
    obtain ⟨n3, hc5, hs⟩ := oW_bx hs
    obtain ⟨t4, l5, hc6, hs⟩ := oW_ax hs
    obtain ⟨hc7, hs⟩ := oW_gx hs
    obtain ⟨hc8, hs⟩ := oW_gx hs
    simp only [↓hG, ↓hJf, ↓px_vc, ↓px_ex, ↓px_jp, ↓px_gi, ↓px_gl, ↓px_gr, ↓px_s1, ↓px_s2, ↓px_nl, ↓px_i1, ↓px_l1, ↓r1_s, ↓px_q1, ↓px_i2, ↓px_l2, ↓px_il, ↓px_d0, ↓px_d1, ↓px_d2, ↓px_pop, ↓px_sp, ↓px_rd, ↓px_rf, ↓pn_xf, ↓px_pt, ↓px_sw, ↓pn_SW, ↓px_ma, ↓reduceIte, Nat.reduceEqDiff, Nat.reduceAdd, Nat.reduceSub, ↓Option.toList_some, ↓Option.toList_none, ↓List.cons_append, ↓List.nil_append, ↓kI_s, ↓kJ_s, ↓kN_s, ↓kO_s, ↓kZ_s, ↓kE_s, ↓an_rfl, ↓bt1 n00, ↓bt2 n00, ↓bf1 n10, ↓bf2 n10, ↓an_sz0, ↓an_sz1, ↓an_sz2, ↓an_sz3, ↓an_sz4, ↓an_ri, ↓an_rb0, ↓an_rb1, ↓an_b0, ↓an_b1, true_and, ↓ai_0s, ↓al_0s, ↓av_0s, ↓aq_0s, ↓ai_1s, ↓al_1s, ↓av_1s, ↓aq_1s, ↓ai_2s, ↓al_2s, ↓av_2s, ↓aq_2s, ↓ai_3s, ↓al_3s, ↓av_3s, ↓aq_3s, ↓ai_4s, ↓al_4s, ↓av_4s, ↓aq_4s, ↓ai_5s, ↓al_5s, ↓av_5s, ↓aq_5s, ↓ai_6s, ↓al_6s, ↓av_6s, ↓aq_6s, ↓ai_7s, ↓al_7s, ↓av_7s, ↓aq_7s, ↓an_l3, ↓bk_53, ↓kp_53_2, ↓bf1 hc0, ↓bf2 hc0, ↓an_t hc1, ↓an_rv hc1, ↓ar_e hc2, ↓an_t hc3, ↓an_t hc4, ↓r1_e hc5, ↓av_0e hc5, ↓av_1e hc5, ↓av_2e hc5, ↓av_3e hc5, ↓ar_e hc6, ↓an_t hc7, ↓an_t hc8]
    rw [oW_some] at hs
    exact hs
set_option maxHeartbeats 4000000 in
set_option maxRecDepth 100000 in
theorem mf_53 {tab : px_T} (hn : px_nd tab) {h : Nat} (hh : 1 ≤ h) : px_Ok tab pn_i53 h (Sg_53 (f_53 tab)) := by
  refine px_mth hn (by decide +kernel) (fun av σ k hS => ?_) (fun C hT hC av σ k hS => ?_)
  · obtain ⟨x0, av0, e0, h0⟩ := av_0p hS
    obtain ⟨x1, av1, e1, h1⟩ := av_1p h0
    obtain ⟨ez, hs⟩ := h1
    subst ez
    subst e1
    subst e0
    exact Nat.le_of_ble_eq_true rfl
  · obtain ⟨x0, av0, e0, h0⟩ := av_0p hS
    obtain ⟨x1, av1, e1, h1⟩ := av_1p h0
    obtain ⟨ez, hs⟩ := h1
    subst ez
    subst e1
    subst e0
    subst hT
    show px_W C k 0 [some (.inr (.inr (some x0))), some (.inr (.inr (some x1))), none] [] σ
    refine px_runH (h - 1) ck_53 [] [(2, kp_53_2 (fun y0 y1 y2 τ => oW (f_53_2 (px_tb C) y0 y1 y2 τ) (fun τ => k none τ)))] 80 3 none rfl rfl hC px_nosp (by omega) (px_cut1 (kq_53_2 (fun y0 y1 y2 τ hq => by exact rl_53_2 hn (by omega) hC (y2, τ) hq)) px_nocut) (fun G Jf hG hJf => ?_)
    unfold f_53 at hs
    simp only [↓hG, ↓hJf, ↓px_vc, ↓px_ex, ↓px_jp, ↓px_gi, ↓px_gl, ↓px_gr, ↓px_s1, ↓px_s2, ↓px_nl, ↓px_i1, ↓px_l1, ↓r1_s, ↓px_q1, ↓px_i2, ↓px_l2, ↓px_il, ↓px_d0, ↓px_d1, ↓px_d2, ↓px_pop, ↓px_sp, ↓px_rd, ↓px_rf, ↓pn_xf, ↓px_pt, ↓px_sw, ↓pn_SW, ↓px_ma, ↓reduceIte, Nat.reduceEqDiff, Nat.reduceAdd, Nat.reduceSub, ↓Option.toList_some, ↓Option.toList_none, ↓List.cons_append, ↓List.nil_append, ↓kI_s, ↓kJ_s, ↓kN_s, ↓kO_s, ↓kZ_s, ↓kE_s, ↓an_rfl, ↓bt1 n00, ↓bt2 n00, ↓bf1 n10, ↓bf2 n10, ↓an_sz0, ↓an_sz1, ↓an_sz2, ↓an_sz3, ↓an_sz4, ↓an_ri, ↓an_rb0, ↓an_rb1, ↓an_b0, ↓an_b1, true_and, ↓ai_0s, ↓al_0s, ↓av_0s, ↓aq_0s, ↓ai_1s, ↓al_1s, ↓av_1s, ↓aq_1s, ↓ai_2s, ↓al_2s, ↓av_2s, ↓aq_2s, ↓ai_3s, ↓al_3s, ↓av_3s, ↓aq_3s, ↓ai_4s, ↓al_4s, ↓av_4s, ↓aq_4s, ↓ai_5s, ↓al_5s, ↓av_5s, ↓aq_5s, ↓ai_6s, ↓al_6s, ↓av_6s, ↓aq_6s, ↓ai_7s, ↓al_7s, ↓av_7s, ↓aq_7s, ↓an_l3, ↓bk_53, ↓kp_53_2]
    exact hs
def Sg_54 (g : px_M → Nat → Int32 → Option (Int32 × px_M)) : px_S := fun av σ k => av_0 av (fun x0 av => ai_1 av (fun x1 av => av = [] ∧ oW (g σ x0 x1) (fun q => k (some (.inl q.1)) q.2)))
/-- NoThreeModel.heldBy(I)I -/
noncomputable def f_54_35 (tab : px_T) (σ : px_M) (x0 : Nat) (x1 : Int32) (x2 : Int32) (x3 : Int32) : Option ((Int32 × Int32 × px_M) ⊕ (Int32 × px_M)) := some (.inl ((x2, (x3 + (nI 1)), σ)))
noncomputable def F_54_4 (tab : px_T) (x0 : Nat) (x1 : Int32) (x2 : Int32) (x3 : Int32) (σ : px_M) : Option ((Int32 × Int32 × px_M) ⊕ (Int32 × px_M)) := gd (px_obj (px_lay tab x0) 0) ((((σ).2.2 x0 1)).bind fun n1 => oA (px_lay tab n1) fun t2 l3 => gd (t2 = 0 ∨ t2 = 11) (gd (vp_in (nI 158) l3) (if (px_av t2 σ n1 ((nI 158)).toNatClampNeg) ≤ x3 then (some (.inr ((x2, σ)))) else ((f_48 tab σ x0 x3 x1).bind fun q4 => if q4.1 = nI 0 then (f_54_35 tab q4.2 x0 x1 ((x2 ||| (nI 0))) x3) else (f_54_35 tab q4.2 x0 x1 ((x2 ||| ((nI 1) <<< (x3 &&& 31)))) x3)))))
noncomputable def f_54_4 (tab : px_T) (x0 : Nat) (x1 : Int32) (x2 : Int32) (x3 : Int32) (σ : px_M) : Option (Int32 × px_M) := lpO (fun s : Int32 × Int32 × px_M => F_54_4 tab x0 x1 s.1 s.2.1 s.2.2) (x2, x3, σ)
theorem f_54_4_eq (tab : px_T) (x0 : Nat) (x1 : Int32) (x2 : Int32) (x3 : Int32) (σ : px_M) : f_54_4 tab x0 x1 x2 x3 σ = (F_54_4 tab x0 x1 x2 x3 σ).bind (Sum.elim (fun s => f_54_4 tab x0 x1 s.1 s.2.1 s.2.2) some) := lpO_eq _ _
noncomputable def f_54 (tab : px_T) (σ : px_M) (x0 : Nat) (x1 : Int32) : Option (Int32 × px_M) := f_54_4 tab x0 x1 ((nI 0)) ((nI 0)) σ
def kp_54_35 (Q : Nat → Int32 → Int32 → Int32 → px_M → Prop) : px_P := fun ls st τ => st = [] ∧ kN ls (fun x0 ls => kI ls (fun x1 ls => kI ls (fun x2 ls => kI ls (fun x3 ls => kE ls (Q x0 x1 x2 x3 τ)))))
theorem kq_54_35 {C : px_C} {k : Option px_V → px_M → Prop} {Q : Nat → Int32 → Int32 → Int32 → px_M → Prop} (H : ∀ (x0 : Nat) (x1 : Int32) (x2 : Int32) (x3 : Int32) (τ : px_M), Q x0 x1 x2 x3 τ → px_W C k 35 [some (.inr (.inr (some x0))), some (.inl x1), some (.inl x2), some (.inl x3)] [] τ) : ∀ ls st τ, kp_54_35 Q ls st τ → px_W C k 35 ls st τ := by
  intro ls st τ hz
  obtain ⟨ez, h0⟩ := hz
  obtain ⟨x0, l0, e0, h1⟩ := kN_sp h0
  obtain ⟨x1, l1, e1, h2⟩ := kI_sp h1
  obtain ⟨x2, l2, e2, h3⟩ := kI_sp h2
  obtain ⟨x3, l3, e3, h4⟩ := kI_sp h3
  obtain ⟨ey, hy⟩ := kE_sp h4
  subst ez
  subst ey
  subst e3
  subst e2
  subst e1
  subst e0
  exact H x0 x1 x2 x3 τ hy
def kp_54_4 (Q : Nat → Int32 → Int32 → Int32 → px_M → Prop) : px_P := fun ls st τ => st = [] ∧ kN ls (fun x0 ls => kI ls (fun x1 ls => kI ls (fun x2 ls => kI ls (fun x3 ls => kE ls (Q x0 x1 x2 x3 τ)))))
theorem kq_54_4 {C : px_C} {k : Option px_V → px_M → Prop} {Q : Nat → Int32 → Int32 → Int32 → px_M → Prop} (H : ∀ (x0 : Nat) (x1 : Int32) (x2 : Int32) (x3 : Int32) (τ : px_M), Q x0 x1 x2 x3 τ → px_W C k 4 [some (.inr (.inr (some x0))), some (.inl x1), some (.inl x2), some (.inl x3)] [] τ) : ∀ ls st τ, kp_54_4 Q ls st τ → px_W C k 4 ls st τ := by
  intro ls st τ hz
  obtain ⟨ez, h0⟩ := hz
  obtain ⟨x0, l0, e0, h1⟩ := kN_sp h0
  obtain ⟨x1, l1, e1, h2⟩ := kI_sp h1
  obtain ⟨x2, l2, e2, h3⟩ := kI_sp h2
  obtain ⟨x3, l3, e3, h4⟩ := kI_sp h3
  obtain ⟨ey, hy⟩ := kE_sp h4
  subst ez
  subst ey
  subst e3
  subst e2
  subst e1
  subst e0
  exact H x0 x1 x2 x3 τ hy
set_option maxHeartbeats 4000000 in
set_option maxRecDepth 100000 in
theorem rl_54_35 {C : px_C} (hn : px_nd (px_tb C)) {h : Nat} (hh : 30 ≤ h) (hC : px_ok C pn_i54 h) {k : Option px_V → px_M → Prop} {x0 : Nat} {x1 : Int32} {x2 : Int32} {x3 : Int32} {σ : px_M} (hs : oW (f_54_35 (px_tb C) σ x0 x1 x2 x3) (Sum.elim (fun s : Int32 × Int32 × px_M => px_W C k 4 [some (.inr (.inr (some x0))), some (.inl x1), some (.inl s.1), some (.inl s.2.1)] [] s.2.2) (fun q => k (some (.inl q.1)) q.2))) : px_W C k 35 [some (.inr (.inr (some x0))), some (.inl x1), some (.inl x2), some (.inl x3)] [] σ := by
  refine px_runH (h - 1) ck_54 [] [(4, kp_54_4 (fun y0 y1 y2 y3 τ => y0 = x0 ∧ y1 = x1 ∧ (fun s : Int32 × Int32 × px_M => px_W C k 4 [some (.inr (.inr (some x0))), some (.inl x1), some (.inl s.1), some (.inl s.2.1)] [] s.2.2) (y2, y3, τ)))] 80 4 (some .int) rfl rfl hC px_nosp (by omega) (px_cut1 (kq_54_4 (fun y0 y1 y2 y3 τ hq => by obtain ⟨rfl, rfl, hq⟩ := hq; exact hq)) px_nocut) (fun G Jf hG hJf => ?_)
  unfold f_54_35 at hs
  simp only [↓hG, ↓hJf, ↓px_vc, ↓px_ex, ↓px_jp, ↓px_gi, ↓px_gl, ↓px_gr, ↓px_s1, ↓px_s2, ↓px_nl, ↓px_i1, ↓px_l1, ↓r1_s, ↓px_q1, ↓px_i2, ↓px_l2, ↓px_il, ↓px_d0, ↓px_d1, ↓px_d2, ↓px_pop, ↓px_sp, ↓px_rd, ↓px_rf, ↓pn_xf, ↓px_pt, ↓px_sw, ↓pn_SW, ↓px_ma, ↓reduceIte, Nat.reduceEqDiff, Nat.reduceAdd, Nat.reduceSub, ↓Option.toList_some, ↓Option.toList_none, ↓List.cons_append, ↓List.nil_append, ↓kI_s, ↓kJ_s, ↓kN_s, ↓kO_s, ↓kZ_s, ↓kE_s, ↓an_rfl, ↓bt1 n00, ↓bt2 n00, ↓bf1 n10, ↓bf2 n10, ↓an_sz0, ↓an_sz1, ↓an_sz2, ↓an_sz3, ↓an_sz4, ↓an_ri, ↓an_rb0, ↓an_rb1, ↓an_b0, ↓an_b1, true_and, ↓ai_0s, ↓al_0s, ↓av_0s, ↓aq_0s, ↓ai_1s, ↓al_1s, ↓av_1s, ↓aq_1s, ↓ai_2s, ↓al_2s, ↓av_2s, ↓aq_2s, ↓ai_3s, ↓al_3s, ↓av_3s, ↓aq_3s, ↓ai_4s, ↓al_4s, ↓av_4s, ↓aq_4s, ↓ai_5s, ↓al_5s, ↓av_5s, ↓aq_5s, ↓ai_6s, ↓al_6s, ↓av_6s, ↓aq_6s, ↓ai_7s, ↓al_7s, ↓av_7s, ↓aq_7s, ↓an_l4, ↓bk_54, ↓kp_54_4]
  rw [oW_some] at hs
  exact hs
set_option maxHeartbeats 4000000 in
set_option maxRecDepth 100000 in
theorem rl_54_4 {C : px_C} (hn : px_nd (px_tb C)) {h : Nat} (hh : 30 ≤ h) (hC : px_ok C pn_i54 h) {k : Option px_V → px_M → Prop} {x0 : Nat} {x1 : Int32} : ∀ s : Int32 × Int32 × px_M, oW (f_54_4 (px_tb C) x0 x1 s.1 s.2.1 s.2.2) (fun q => k (some (.inl q.1)) q.2) → (fun s : Int32 × Int32 × px_M => px_W C k 4 [some (.inr (.inr (some x0))), some (.inl x1), some (.inl s.1), some (.inl s.2.1)] [] s.2.2) s := by
  intro s h0
  refine lpO_sound (P := (fun s : Int32 × Int32 × px_M => px_W C k 4 [some (.inr (.inr (some x0))), some (.inl x1), some (.inl s.1), some (.inl s.2.1)] [] s.2.2)) (fun s hs => ?_) h0
  obtain ⟨x2, x3, σ⟩ := s
  refine px_runH (h - 1) ck_54 [(48, Sg_48 (f_48 (px_tb C)))] [(35, kp_54_35 (fun y0 y1 y2 y3 τ => y0 = x0 ∧ y1 = x1 ∧ oW (f_54_35 (px_tb C) τ y0 y1 y2 y3) (Sum.elim (fun s : Int32 × Int32 × px_M => px_W C k 4 [some (.inr (.inr (some x0))), some (.inl x1), some (.inl s.1), some (.inl s.2.1)] [] s.2.2) (fun q => k (some (.inl q.1)) q.2))))] 80 4 (some .int) rfl rfl hC (px_sp1 (mf_48 hn (by omega)) px_nosp) (by omega) (px_cut1 (kq_54_35 (fun y0 y1 y2 y3 τ hq => by obtain ⟨rfl, rfl, hq⟩ := hq; exact rl_54_35 hn (by omega) hC  hq)) px_nocut) (fun G Jf hG hJf => ?_)
  replace hs : oW (F_54_4 (px_tb C) x0 x1 x2 x3 σ) _ := hs
  unfold F_54_4 at hs
  obtain ⟨hc0, hs⟩ := oW_gx hs
  obtain ⟨n1, hc1, hs⟩ := oW_bx hs
  obtain ⟨t2, l3, hc2, hs⟩ := oW_ax hs
  obtain ⟨hc3, hs⟩ := oW_gx hs
  obtain ⟨hc4, hs⟩ := oW_gx hs
  by_cases hc5 : (px_av t2 σ n1 ((nI 158)).toNatClampNeg) ≤ x3
  · replace hs := oW_t hs hc5
    simp only [↓hG, ↓hJf, ↓px_vc, ↓px_ex, ↓px_jp, ↓px_gi, ↓px_gl, ↓px_gr, ↓px_s1, ↓px_s2, ↓px_nl, ↓px_i1, ↓px_l1, ↓r1_s, ↓px_q1, ↓px_i2, ↓px_l2, ↓px_il, ↓px_d0, ↓px_d1, ↓px_d2, ↓px_pop, ↓px_sp, ↓px_rd, ↓px_rf, ↓pn_xf, ↓px_pt, ↓px_sw, ↓pn_SW, ↓px_ma, ↓reduceIte, Nat.reduceEqDiff, Nat.reduceAdd, Nat.reduceSub, ↓Option.toList_some, ↓Option.toList_none, ↓List.cons_append, ↓List.nil_append, ↓kI_s, ↓kJ_s, ↓kN_s, ↓kO_s, ↓kZ_s, ↓kE_s, ↓an_rfl, ↓bt1 n00, ↓bt2 n00, ↓bf1 n10, ↓bf2 n10, ↓an_sz0, ↓an_sz1, ↓an_sz2, ↓an_sz3, ↓an_sz4, ↓an_ri, ↓an_rb0, ↓an_rb1, ↓an_b0, ↓an_b1, true_and, ↓ai_0s, ↓al_0s, ↓av_0s, ↓aq_0s, ↓ai_1s, ↓al_1s, ↓av_1s, ↓aq_1s, ↓ai_2s, ↓al_2s, ↓av_2s, ↓aq_2s, ↓ai_3s, ↓al_3s, ↓av_3s, ↓aq_3s, ↓ai_4s, ↓al_4s, ↓av_4s, ↓aq_4s, ↓ai_5s, ↓al_5s, ↓av_5s, ↓aq_5s, ↓ai_6s, ↓al_6s, ↓av_6s, ↓aq_6s, ↓ai_7s, ↓al_7s, ↓av_7s, ↓aq_7s, ↓an_l4, ↓bk_54, ↓Sg_48, ↓kp_54_35, ↓an_t hc0, ↓an_rv hc0, ↓r1_e hc1, ↓av_0e hc1, ↓av_1e hc1, ↓av_2e hc1, ↓av_3e hc1, ↓ar_e hc2, ↓an_t hc3, ↓an_t hc4, ↓bt1 hc5, ↓bt2 hc5]
    rw [oW_some] at hs
    exact hs
  · replace hs := oW_f hs hc5
    obtain ⟨q4, hc6, hs⟩ := oW_bx hs
    by_cases hc7 : q4.1 = nI 0
    · replace hs := oW_t hs hc7
      simp only [↓hG, ↓hJf, ↓px_vc, ↓px_ex, ↓px_jp, ↓px_gi, ↓px_gl, ↓px_gr, ↓px_s1, ↓px_s2, ↓px_nl, ↓px_i1, ↓px_l1, ↓r1_s, ↓px_q1, ↓px_i2, ↓px_l2, ↓px_il, ↓px_d0, ↓px_d1, ↓px_d2, ↓px_pop, ↓px_sp, ↓px_rd, ↓px_rf, ↓pn_xf, ↓px_pt, ↓px_sw, ↓pn_SW, ↓px_ma, ↓reduceIte, Nat.reduceEqDiff, Nat.reduceAdd, Nat.reduceSub, ↓Option.toList_some, ↓Option.toList_none, ↓List.cons_append, ↓List.nil_append, ↓kI_s, ↓kJ_s, ↓kN_s, ↓kO_s, ↓kZ_s, ↓kE_s, ↓an_rfl, ↓bt1 n00, ↓bt2 n00, ↓bf1 n10, ↓bf2 n10, ↓an_sz0, ↓an_sz1, ↓an_sz2, ↓an_sz3, ↓an_sz4, ↓an_ri, ↓an_rb0, ↓an_rb1, ↓an_b0, ↓an_b1, true_and, ↓ai_0s, ↓al_0s, ↓av_0s, ↓aq_0s, ↓ai_1s, ↓al_1s, ↓av_1s, ↓aq_1s, ↓ai_2s, ↓al_2s, ↓av_2s, ↓aq_2s, ↓ai_3s, ↓al_3s, ↓av_3s, ↓aq_3s, ↓ai_4s, ↓al_4s, ↓av_4s, ↓aq_4s, ↓ai_5s, ↓al_5s, ↓av_5s, ↓aq_5s, ↓ai_6s, ↓al_6s, ↓av_6s, ↓aq_6s, ↓ai_7s, ↓al_7s, ↓av_7s, ↓aq_7s, ↓an_l4, ↓bk_54, ↓Sg_48, ↓kp_54_35, ↓an_t hc0, ↓an_rv hc0, ↓r1_e hc1, ↓av_0e hc1, ↓av_1e hc1, ↓av_2e hc1, ↓av_3e hc1, ↓ar_e hc2, ↓an_t hc3, ↓an_t hc4, ↓bf1 hc5, ↓bf2 hc5, ↓oW_e hc6, ↓bt1 hc7, ↓bt2 hc7]
      exact hs
    · replace hs := oW_f hs hc7
      simp only [↓hG, ↓hJf, ↓px_vc, ↓px_ex, ↓px_jp, ↓px_gi, ↓px_gl, ↓px_gr, ↓px_s1, ↓px_s2, ↓px_nl, ↓px_i1, ↓px_l1, ↓r1_s, ↓px_q1, ↓px_i2, ↓px_l2, ↓px_il, ↓px_d0, ↓px_d1, ↓px_d2, ↓px_pop, ↓px_sp, ↓px_rd, ↓px_rf, ↓pn_xf, ↓px_pt, ↓px_sw, ↓pn_SW, ↓px_ma, ↓reduceIte, Nat.reduceEqDiff, Nat.reduceAdd, Nat.reduceSub, ↓Option.toList_some, ↓Option.toList_none, ↓List.cons_append, ↓List.nil_append, ↓kI_s, ↓kJ_s, ↓kN_s, ↓kO_s, ↓kZ_s, ↓kE_s, ↓an_rfl, ↓bt1 n00, ↓bt2 n00, ↓bf1 n10, ↓bf2 n10, ↓an_sz0, ↓an_sz1, ↓an_sz2, ↓an_sz3, ↓an_sz4, ↓an_ri, ↓an_rb0, ↓an_rb1, ↓an_b0, ↓an_b1, true_and, ↓ai_0s, ↓al_0s, ↓av_0s, ↓aq_0s, ↓ai_1s, ↓al_1s, ↓av_1s, ↓aq_1s, ↓ai_2s, ↓al_2s, ↓av_2s, ↓aq_2s, ↓ai_3s, ↓al_3s, ↓av_3s, ↓aq_3s, ↓ai_4s, ↓al_4s, ↓av_4s, ↓aq_4s, ↓ai_5s, ↓al_5s, ↓av_5s, ↓aq_5s, ↓ai_6s, ↓al_6s, ↓av_6s, ↓aq_6s, ↓ai_7s, ↓al_7s, ↓av_7s, ↓aq_7s, ↓an_l4, ↓bk_54, ↓Sg_48, ↓kp_54_35, ↓an_t hc0, ↓an_rv hc0, ↓r1_e hc1, ↓av_0e hc1, ↓av_1e hc1, ↓av_2e hc1, ↓av_3e hc1, ↓ar_e hc2, ↓an_t hc3, ↓an_t hc4, ↓bf1 hc5, ↓bf2 hc5, ↓oW_e hc6, ↓bf1 hc7, ↓bf2 hc7]
      exact hs
set_option maxHeartbeats 4000000 in
set_option maxRecDepth 100000 in
theorem mf_54 {tab : px_T} (hn : px_nd tab) {h : Nat} (hh : 30 ≤ h) : px_Ok tab pn_i54 h (Sg_54 (f_54 tab)) := by
  refine px_mth hn (by decide +kernel) (fun av σ k hS => ?_) (fun C hT hC av σ k hS => ?_)
  · obtain ⟨x0, av0, e0, h0⟩ := av_0p hS
    obtain ⟨x1, av1, e1, h1⟩ := ai_1p h0
    obtain ⟨ez, hs⟩ := h1
    subst ez
    subst e1
    subst e0
    exact Nat.le_of_ble_eq_true rfl
  · obtain ⟨x0, av0, e0, h0⟩ := av_0p hS
    obtain ⟨x1, av1, e1, h1⟩ := ai_1p h0
    obtain ⟨ez, hs⟩ := h1
    subst ez
    subst e1
    subst e0
    subst hT
    show px_W C k 0 [some (.inr (.inr (some x0))), some (.inl x1), none, none] [] σ
    refine px_runH (h - 1) ck_54 [] [(4, kp_54_4 (fun y0 y1 y2 y3 τ => oW (f_54_4 (px_tb C) y0 y1 y2 y3 τ) (fun q => k (some (.inl q.1)) q.2)))] 80 4 (some .int) rfl rfl hC px_nosp (by omega) (px_cut1 (kq_54_4 (fun y0 y1 y2 y3 τ hq => by exact rl_54_4 hn (by omega) hC (y2, y3, τ) hq)) px_nocut) (fun G Jf hG hJf => ?_)
    unfold f_54 at hs
    simp only [↓hG, ↓hJf, ↓px_vc, ↓px_ex, ↓px_jp, ↓px_gi, ↓px_gl, ↓px_gr, ↓px_s1, ↓px_s2, ↓px_nl, ↓px_i1, ↓px_l1, ↓r1_s, ↓px_q1, ↓px_i2, ↓px_l2, ↓px_il, ↓px_d0, ↓px_d1, ↓px_d2, ↓px_pop, ↓px_sp, ↓px_rd, ↓px_rf, ↓pn_xf, ↓px_pt, ↓px_sw, ↓pn_SW, ↓px_ma, ↓reduceIte, Nat.reduceEqDiff, Nat.reduceAdd, Nat.reduceSub, ↓Option.toList_some, ↓Option.toList_none, ↓List.cons_append, ↓List.nil_append, ↓kI_s, ↓kJ_s, ↓kN_s, ↓kO_s, ↓kZ_s, ↓kE_s, ↓an_rfl, ↓bt1 n00, ↓bt2 n00, ↓bf1 n10, ↓bf2 n10, ↓an_sz0, ↓an_sz1, ↓an_sz2, ↓an_sz3, ↓an_sz4, ↓an_ri, ↓an_rb0, ↓an_rb1, ↓an_b0, ↓an_b1, true_and, ↓ai_0s, ↓al_0s, ↓av_0s, ↓aq_0s, ↓ai_1s, ↓al_1s, ↓av_1s, ↓aq_1s, ↓ai_2s, ↓al_2s, ↓av_2s, ↓aq_2s, ↓ai_3s, ↓al_3s, ↓av_3s, ↓aq_3s, ↓ai_4s, ↓al_4s, ↓av_4s, ↓aq_4s, ↓ai_5s, ↓al_5s, ↓av_5s, ↓aq_5s, ↓ai_6s, ↓al_6s, ↓av_6s, ↓aq_6s, ↓ai_7s, ↓al_7s, ↓av_7s, ↓aq_7s, ↓an_l4, ↓bk_54, ↓kp_54_4]
    exact hs
