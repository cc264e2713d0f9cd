/-! shallow functions, printed by wip/whole/decomp.py -/
def Sg_7002 (g : px_M → Nat → Nat → Option (px_M)) : px_S := fun av σ k => av_0 av (fun x0 av => av_1 av (fun x1 av => av = [] ∧ oW (g σ x0 x1) (fun τ => k none τ)))
/-- NoThree$Market.visit(LNoThree$Town;)V -/
noncomputable def f_7002 (tab : px_T) (σ : px_M) (x0 : Nat) (x1 : Nat) : Option (px_M) := gd (px_obj (px_lay tab x0) 7) ((((σ).2.2 x0 0)).bind fun n1 => gd (px_obj (px_lay tab n1) 11) ((f_11007 tab σ n1 x1).bind fun q2 => some (q2)))
set_option maxHeartbeats 4000000 in
set_option maxRecDepth 100000 in
theorem mf_7002 {tab : px_T} (hn : px_nd tab) {h : Nat} (hh : 2 ≤ h) : px_Ok tab pn_i7002 h (Sg_7002 (f_7002 tab)) := by
  refine px_mth hn (by decide +kernel) (fun av σ k hS => ?_) (fun C hT hC av σ k hS => ?_)
  · obtain ⟨x0, av0, e0, h0⟩ := av_0p hS
    obtain ⟨x1, av1, e1, h1⟩ := av_1p h0
    obtain ⟨ez, hs⟩ := h1
    subst ez
    subst e1
    subst e0
    exact Nat.le_of_ble_eq_true rfl
  · obtain ⟨x0, av0, e0, h0⟩ := av_0p hS
    obtain ⟨x1, av1, e1, h1⟩ := av_1p h0
    obtain ⟨ez, hs⟩ := h1
    subst ez
    subst e1
    subst e0
    subst hT
    show px_W C k 0 [some (.inr (.inr (some x0))), some (.inr (.inr (some x1)))] [] σ
    refine px_runH (h - 1) ck_7002 [(11007, Sg_11007 (f_11007 (px_tb C)))] [] 80 2 none rfl rfl hC (px_sp1 (mf_11007 hn (by omega)) px_nosp) (by omega) px_nocut (fun G Jf hG hJf => ?_)
    unfold f_7002 at hs
    obtain ⟨hc0, hs⟩ := oW_gx hs
    obtain ⟨n1, hc1, hs⟩ := oW_bx hs
    obtain ⟨hc2, hs⟩ := oW_gx hs
    obtain ⟨q2, hc3, hs⟩ := oW_bx hs
    simp (implicitDefEqProofs := false) only [↓hG, ↓hJf, ↓px_vc, ↓px_ex, ↓px_jp, ↓rq_gi_0, ↓rq_gi_S, ↓rq_gl_0, ↓rq_gl_S, ↓rq_gr_0, ↓rq_gr_S, ↓rq_s1_0, ↓rq_s1_1, ↓rq_s1_S, ↓rq_s2_0, ↓rq_s2_1, ↓rq_s2_S, ↓rq_nl_n, ↓rq_nl_i, ↓rq_nl_l, ↓rq_nl_r, ↓rq_i1_s, ↓rq_l1_s, ↓r1_s, ↓rq_q1_s, ↓rq_i2_s, ↓rq_l2_s, ↓rq_il_s, ↓rq_d0_s, ↓rq_d1_i, ↓rq_d1_r, ↓rq_d2_l, ↓rq_d2_ii, ↓rq_d2_ir, ↓px_pop, ↓px_sp, ↓px_rd, ↓px_rf, ↓pn_xf, ↓rq_pt_0, ↓rq_pt_1, ↓rq_pt_2, ↓rq_pt_3, ↓px_sw, ↓pn_SW, ↓px_ma, ↓reduceIte, Nat.reduceEqDiff, Nat.reduceAdd, Nat.reduceSub, ↓Option.toList_some, ↓Option.toList_none, ↓List.cons_append, ↓List.nil_append, ↓kI_s, ↓kJ_s, ↓kN_s, ↓kO_s, ↓kZ_s, ↓kE_s, ↓an_rfl, ↓bt1 n00, ↓bt2 n00, ↓bf1 n10, ↓bf2 n10, ↓an_sz0, ↓an_sz1, ↓an_sz2, ↓an_sz3, ↓an_sz4, ↓an_ri, ↓an_rb0, ↓an_rb1, ↓an_b0, ↓an_b1, true_and, ↓ai_0s, ↓al_0s, ↓av_0s, ↓aq_0s, ↓ai_1s, ↓al_1s, ↓av_1s, ↓aq_1s, ↓ai_2s, ↓al_2s, ↓av_2s, ↓aq_2s, ↓ai_3s, ↓al_3s, ↓av_3s, ↓aq_3s, ↓ai_4s, ↓al_4s, ↓av_4s, ↓aq_4s, ↓ai_5s, ↓al_5s, ↓av_5s, ↓aq_5s, ↓ai_6s, ↓al_6s, ↓av_6s, ↓aq_6s, ↓ai_7s, ↓al_7s, ↓av_7s, ↓aq_7s, ↓an_l2, ↓bk_7002, ↓Sg_11007, ↓an_t hc0, ↓an_rv hc0, ↓r1_e hc1, ↓av_0e hc1, ↓av_1e hc1, ↓av_2e hc1, ↓av_3e hc1, ↓an_t hc2, ↓an_rv hc2, ↓an_rvo hc1 hc2, ↓oW_e hc3]
    rw [oW_some] at hs
    exact hs
def Sg_11018 (g : px_M → Nat → Int32 → Option (Int32)) : px_S := fun av σ k => av_0 av (fun x0 av => ai_1 av (fun x1 av => av = [] ∧ oW (g σ x0 x1) (fun r => k (some (.inl r)) σ)))
/-- NoThree$Town.twoStepsFrom(I)I -/
noncomputable def f_11018 (tab : px_T) (σ : px_M) (x0 : Nat) (x1 : Int32) : Option (Int32) := gd (px_obj (px_lay tab x0) 11) ((f_11005 tab σ x0 x1).bind fun r1 => (f_11016 tab σ x0 r1).bind fun r2 => some (((r2 &&& (r1 ^^^ (-1))) &&& (((nI 1) <<< (x1 &&& 31)) ^^^ (-1)))))
set_option maxHeartbeats 4000000 in
set_option maxRecDepth 100000 in
theorem mf_11018 {tab : px_T} (hn : px_nd tab) {h : Nat} (hh : 2 ≤ h) : px_Ok tab pn_i11018 h (Sg_11018 (f_11018 tab)) := by
  refine px_mth hn (by decide +kernel) (fun av σ k hS => ?_) (fun C hT hC av σ k hS => ?_)
  · obtain ⟨x0, av0, e0, h0⟩ := av_0p hS
    obtain ⟨x1, av1, e1, h1⟩ := ai_1p h0
    obtain ⟨ez, hs⟩ := h1
    subst ez
    subst e1
    subst e0
    exact Nat.le_of_ble_eq_true rfl
  · obtain ⟨x0, av0, e0, h0⟩ := av_0p hS
    obtain ⟨x1, av1, e1, h1⟩ := ai_1p h0
    obtain ⟨ez, hs⟩ := h1
    subst ez
    subst e1
    subst e0
    subst hT
    show px_W C k 0 [some (.inr (.inr (some x0))), some (.inl x1)] [] σ
    refine px_runH (h - 1) ck_11018 [(11005, Sg_11005 (f_11005 (px_tb C))), (11016, Sg_11016 (f_11016 (px_tb C)))] [] 80 2 (some .int) rfl rfl hC (px_sp1 (mf_11005 hn (by omega)) (px_sp1 (mf_11016 hn (by omega)) px_nosp)) (by omega) px_nocut (fun G Jf hG hJf => ?_)
    unfold f_11018 at hs
    obtain ⟨hc0, hs⟩ := oW_gx hs
    obtain ⟨r1, hc1, hs⟩ := oW_bx hs
    obtain ⟨r2, hc2, hs⟩ := oW_bx hs
    simp (implicitDefEqProofs := false) only [↓hG, ↓hJf, ↓px_vc, ↓px_ex, ↓px_jp, ↓rq_gi_0, ↓rq_gi_S, ↓rq_gl_0, ↓rq_gl_S, ↓rq_gr_0, ↓rq_gr_S, ↓rq_s1_0, ↓rq_s1_1, ↓rq_s1_S, ↓rq_s2_0, ↓rq_s2_1, ↓rq_s2_S, ↓rq_nl_n, ↓rq_nl_i, ↓rq_nl_l, ↓rq_nl_r, ↓rq_i1_s, ↓rq_l1_s, ↓r1_s, ↓rq_q1_s, ↓rq_i2_s, ↓rq_l2_s, ↓rq_il_s, ↓rq_d0_s, ↓rq_d1_i, ↓rq_d1_r, ↓rq_d2_l, ↓rq_d2_ii, ↓rq_d2_ir, ↓px_pop, ↓px_sp, ↓px_rd, ↓px_rf, ↓pn_xf, ↓rq_pt_0, ↓rq_pt_1, ↓rq_pt_2, ↓rq_pt_3, ↓px_sw, ↓pn_SW, ↓px_ma, ↓reduceIte, Nat.reduceEqDiff, Nat.reduceAdd, Nat.reduceSub, ↓Option.toList_some, ↓Option.toList_none, ↓List.cons_append, ↓List.nil_append, ↓kI_s, ↓kJ_s, ↓kN_s, ↓kO_s, ↓kZ_s, ↓kE_s, ↓an_rfl, ↓bt1 n00, ↓bt2 n00, ↓bf1 n10, ↓bf2 n10, ↓an_sz0, ↓an_sz1, ↓an_sz2, ↓an_sz3, ↓an_sz4, ↓an_ri, ↓an_rb0, ↓an_rb1, ↓an_b0, ↓an_b1, true_and, ↓ai_0s, ↓al_0s, ↓av_0s, ↓aq_0s, ↓ai_1s, ↓al_1s, ↓av_1s, ↓aq_1s, ↓ai_2s, ↓al_2s, ↓av_2s, ↓aq_2s, ↓ai_3s, ↓al_3s, ↓av_3s, ↓aq_3s, ↓ai_4s, ↓al_4s, ↓av_4s, ↓aq_4s, ↓ai_5s, ↓al_5s, ↓av_5s, ↓aq_5s, ↓ai_6s, ↓al_6s, ↓av_6s, ↓aq_6s, ↓ai_7s, ↓al_7s, ↓av_7s, ↓aq_7s, ↓an_l2, ↓bk_11018, ↓Sg_11005, ↓Sg_11016, ↓an_t hc0, ↓an_rv hc0, ↓oW_e hc1, ↓oW_e hc2]
    rw [oW_some] at hs
    exact hs
def Sg_7003 (g : px_M → Nat → Nat → Int32 → Option (Int32)) : px_S := fun av σ k => av_0 av (fun x0 av => av_1 av (fun x1 av => ai_2 av (fun x2 av => av = [] ∧ oW (g σ x0 x1 x2) (fun r => k (some (.inl r)) σ))))
/-- NoThree$Market.worth(LNoThree$Town;I)I -/
noncomputable def f_7003 (tab : px_T) (σ : px_M) (x0 : Nat) (x1 : Nat) (x2 : Int32) : Option (Int32) := gd (px_obj (px_lay tab x1) 11) ((f_11014 tab σ x1 x2).bind fun r1 => (f_11018 tab σ x1 x2).bind fun r2 => (f_21000 tab σ r2).bind fun r3 => some ((((nI 10) * r1) + ((nI 4) * r3))))
set_option maxHeartbeats 4000000 in
set_option maxRecDepth 100000 in
theorem mf_7003 {tab : px_T} (hn : px_nd tab) {h : Nat} (hh : 3 ≤ h) : px_Ok tab pn_i7003 h (Sg_7003 (f_7003 tab)) := by
  refine px_mth hn (by decide +kernel) (fun av σ k hS => ?_) (fun C hT hC av σ k hS => ?_)
  · obtain ⟨x0, av0, e0, h0⟩ := av_0p hS
    obtain ⟨x1, av1, e1, h1⟩ := av_1p h0
    obtain ⟨x2, av2, e2, h2⟩ := ai_2p h1
    obtain ⟨ez, hs⟩ := h2
    subst ez
    subst e2
    subst e1
    subst e0
    exact Nat.le_of_ble_eq_true rfl
  · obtain ⟨x0, av0, e0, h0⟩ := av_0p hS
    obtain ⟨x1, av1, e1, h1⟩ := av_1p h0
    obtain ⟨x2, av2, e2, h2⟩ := ai_2p h1
    obtain ⟨ez, hs⟩ := h2
    subst ez
    subst e2
    subst e1
    subst e0
    subst hT
    show px_W C k 0 [some (.inr (.inr (some x0))), some (.inr (.inr (some x1))), some (.inl x2)] [] σ
    refine px_runH (h - 1) ck_7003 [(11014, Sg_11014 (f_11014 (px_tb C))), (11018, Sg_11018 (f_11018 (px_tb C))), (21000, Sg_21000 (f_21000 (px_tb C)))] [] 80 3 (some .int) rfl rfl hC (px_sp1 (mf_11014 hn (by omega)) (px_sp1 (mf_11018 hn (by omega)) (px_sp1 (mf_21000 hn (by omega)) px_nosp))) (by omega) px_nocut (fun G Jf hG hJf => ?_)
    unfold f_7003 at hs
    obtain ⟨hc0, hs⟩ := oW_gx hs
    obtain ⟨r1, hc1, hs⟩ := oW_bx hs
    obtain ⟨r2, hc2, hs⟩ := oW_bx hs
    obtain ⟨r3, hc3, hs⟩ := oW_bx hs
    simp (implicitDefEqProofs := false) only [↓hG, ↓hJf, ↓px_vc, ↓px_ex, ↓px_jp, ↓rq_gi_0, ↓rq_gi_S, ↓rq_gl_0, ↓rq_gl_S, ↓rq_gr_0, ↓rq_gr_S, ↓rq_s1_0, ↓rq_s1_1, ↓rq_s1_S, ↓rq_s2_0, ↓rq_s2_1, ↓rq_s2_S, ↓rq_nl_n, ↓rq_nl_i, ↓rq_nl_l, ↓rq_nl_r, ↓rq_i1_s, ↓rq_l1_s, ↓r1_s, ↓rq_q1_s, ↓rq_i2_s, ↓rq_l2_s, ↓rq_il_s, ↓rq_d0_s, ↓rq_d1_i, ↓rq_d1_r, ↓rq_d2_l, ↓rq_d2_ii, ↓rq_d2_ir, ↓px_pop, ↓px_sp, ↓px_rd, ↓px_rf, ↓pn_xf, ↓rq_pt_0, ↓rq_pt_1, ↓rq_pt_2, ↓rq_pt_3, ↓px_sw, ↓pn_SW, ↓px_ma, ↓reduceIte, Nat.reduceEqDiff, Nat.reduceAdd, Nat.reduceSub, ↓Option.toList_some, ↓Option.toList_none, ↓List.cons_append, ↓List.nil_append, ↓kI_s, ↓kJ_s, ↓kN_s, ↓kO_s, ↓kZ_s, ↓kE_s, ↓an_rfl, ↓bt1 n00, ↓bt2 n00, ↓bf1 n10, ↓bf2 n10, ↓an_sz0, ↓an_sz1, ↓an_sz2, ↓an_sz3, ↓an_sz4, ↓an_ri, ↓an_rb0, ↓an_rb1, ↓an_b0, ↓an_b1, true_and, ↓ai_0s, ↓al_0s, ↓av_0s, ↓aq_0s, ↓ai_1s, ↓al_1s, ↓av_1s, ↓aq_1s, ↓ai_2s, ↓al_2s, ↓av_2s, ↓aq_2s, ↓ai_3s, ↓al_3s, ↓av_3s, ↓aq_3s, ↓ai_4s, ↓al_4s, ↓av_4s, ↓aq_4s, ↓ai_5s, ↓al_5s, ↓av_5s, ↓aq_5s, ↓ai_6s, ↓al_6s, ↓av_6s, ↓aq_6s, ↓ai_7s, ↓al_7s, ↓av_7s, ↓aq_7s, ↓an_l3, ↓bk_7003, ↓Sg_11014, ↓Sg_11018, ↓Sg_21000, ↓an_t hc0, ↓an_rv hc0, ↓oW_e hc1, ↓oW_e hc2, ↓oW_e hc3]
    rw [oW_some] at hs
    exact hs
def Sg_7006 (g : px_M → Nat → Int32 → Int32 → Option (Int32 × px_M)) : px_S := fun av σ k => av_0 av (fun x0 av => ai_1 av (fun x1 av => ai_2 av (fun x2 av => av = [] ∧ oW (g σ x0 x1 x2) (fun q => k (some (.inl q.1)) q.2))))
/-- NoThree$Market.lossByWall(II)I -/
noncomputable def f_7006_20 (tab : px_T) (σ : px_M) (x0 : Nat) (x1 : Int32) (x2 : Int32) : Option (Int32 × px_M) := gd (px_obj (px_lay tab x0) 7) ((((σ).2.2 x0 0)).bind fun n1 => (f_7003 tab σ x0 n1 x1).bind fun r2 => (((σ).2.2 x0 1)).bind fun n3 => (f_7003 tab σ x0 n3 x1).bind fun r4 => (f_7003 tab σ x0 n1 x2).bind fun r5 => (f_7003 tab σ x0 n3 x2).bind fun r6 => some (((if (r5 - r6) < (r2 - r4) then (r5 - r6) else (r2 - r4)), σ)))
noncomputable def f_7006_11 (tab : px_T) (σ : px_M) (x0 : Nat) (x1 : Int32) (x2 : Int32) : Option (Int32 × px_M) := gd (px_obj (px_lay tab x0) 7) ((((σ).2.2 x0 1)).bind fun n1 => gd (px_obj (px_lay tab n1) 11) ((f_11010 tab σ n1 x1 x2).bind fun q2 => f_7006_20 tab q2 x0 x1 x2))
noncomputable def f_7006 (tab : px_T) (σ : px_M) (x0 : Nat) (x1 : Int32) (x2 : Int32) : Option (Int32 × px_M) := gd (px_obj (px_lay tab x0) 7) ((((σ).2.2 x0 1)).bind fun n1 => gd (px_obj (px_lay tab n1) 11) ((((σ).2.2 x0 0)).bind fun n2 => (f_11007 tab σ n1 n2).bind fun q3 => f_7006_11 tab q3 x0 x1 x2))
def kp_7006_20 (Q : Nat → Int32 → Int32 → px_M → Prop) : px_P := fun ls st τ => st = [] ∧ kN ls (fun x0 ls => kI ls (fun x1 ls => kI ls (fun x2 ls => kE ls (Q x0 x1 x2 τ))))
theorem kq_7006_20 {C : px_C} {k : Option px_V → px_M → Prop} {Q : Nat → Int32 → Int32 → px_M → Prop} (H : ∀ (x0 : Nat) (x1 : Int32) (x2 : Int32) (τ : px_M), Q x0 x1 x2 τ → px_W C k 20 [some (.inr (.inr (some x0))), some (.inl x1), some (.inl x2)] [] τ) : ∀ ls st τ, kp_7006_20 Q ls st τ → px_W C k 20 ls st τ := by
  intro ls st τ hz
  obtain ⟨ez, h0⟩ := hz
  obtain ⟨x0, l0, e0, h1⟩ := kN_sp h0
  obtain ⟨x1, l1, e1, h2⟩ := kI_sp h1
  obtain ⟨x2, l2, e2, h3⟩ := kI_sp h2
  obtain ⟨ey, hy⟩ := kE_sp h3
  subst ez
  subst ey
  subst e2
  subst e1
  subst e0
  exact H x0 x1 x2 τ hy
def kp_7006_11 (Q : Nat → Int32 → Int32 → px_M → Prop) : px_P := fun ls st τ => st = [] ∧ kN ls (fun x0 ls => kI ls (fun x1 ls => kI ls (fun x2 ls => kE ls (Q x0 x1 x2 τ))))
theorem kq_7006_11 {C : px_C} {k : Option px_V → px_M → Prop} {Q : Nat → Int32 → Int32 → px_M → Prop} (H : ∀ (x0 : Nat) (x1 : Int32) (x2 : Int32) (τ : px_M), Q x0 x1 x2 τ → px_W C k 11 [some (.inr (.inr (some x0))), some (.inl x1), some (.inl x2)] [] τ) : ∀ ls st τ, kp_7006_11 Q ls st τ → px_W C k 11 ls st τ := by
  intro ls st τ hz
  obtain ⟨ez, h0⟩ := hz
  obtain ⟨x0, l0, e0, h1⟩ := kN_sp h0
  obtain ⟨x1, l1, e1, h2⟩ := kI_sp h1
  obtain ⟨x2, l2, e2, h3⟩ := kI_sp h2
  obtain ⟨ey, hy⟩ := kE_sp h3
  subst ez
  subst ey
  subst e2
  subst e1
  subst e0
  exact H x0 x1 x2 τ hy
set_option maxHeartbeats 4000000 in
set_option maxRecDepth 100000 in
theorem rl_7006_20 {C : px_C} (hn : px_nd (px_tb C)) {h : Nat} (hh : 4 ≤ h) (hC : px_ok C pn_i7006 h) {k : Option px_V → px_M → Prop} {x0 : Nat} {x1 : Int32} {x2 : Int32} {σ : px_M} (hs : oW (f_7006_20 (px_tb C) σ x0 x1 x2) (fun q => k (some (.inl q.1)) q.2)) : px_W C k 20 [some (.inr (.inr (some x0))), some (.inl x1), some (.inl x2)] [] σ := by
  refine px_runH (h - 1) ck_7006 [(7003, Sg_7003 (f_7003 (px_tb C)))] [] 80 3 (some .int) rfl rfl hC (px_sp1 (mf_7003 hn (by omega)) px_nosp) (by omega) px_nocut (fun G Jf hG hJf => ?_)
  unfold f_7006_20 at hs
  obtain ⟨hc0, hs⟩ := oW_gx hs
  obtain ⟨n1, hc1, hs⟩ := oW_bx hs
  obtain ⟨r2, hc2, hs⟩ := oW_bx hs
  obtain ⟨n3, hc3, hs⟩ := oW_bx hs
  obtain ⟨r4, hc4, hs⟩ := oW_bx hs
  obtain ⟨r5, hc5, hs⟩ := oW_bx hs
  obtain ⟨r6, hc6, hs⟩ := oW_bx hs
  simp (implicitDefEqProofs := false) only [↓hG, ↓hJf, ↓px_vc, ↓px_ex, ↓px_jp, ↓rq_gi_0, ↓rq_gi_S, ↓rq_gl_0, ↓rq_gl_S, ↓rq_gr_0, ↓rq_gr_S, ↓rq_s1_0, ↓rq_s1_1, ↓rq_s1_S, ↓rq_s2_0, ↓rq_s2_1, ↓rq_s2_S, ↓rq_nl_n, ↓rq_nl_i, ↓rq_nl_l, ↓rq_nl_r, ↓rq_i1_s, ↓rq_l1_s, ↓r1_s, ↓rq_q1_s, ↓rq_i2_s, ↓rq_l2_s, ↓rq_il_s, ↓rq_d0_s, ↓rq_d1_i, ↓rq_d1_r, ↓rq_d2_l, ↓rq_d2_ii, ↓rq_d2_ir, ↓px_pop, ↓px_sp, ↓px_rd, ↓px_rf, ↓pn_xf, ↓rq_pt_0, ↓rq_pt_1, ↓rq_pt_2, ↓rq_pt_3, ↓px_sw, ↓pn_SW, ↓px_ma, ↓reduceIte, Nat.reduceEqDiff, Nat.reduceAdd, Nat.reduceSub, ↓Option.toList_some, ↓Option.toList_none, ↓List.cons_append, ↓List.nil_append, ↓kI_s, ↓kJ_s, ↓kN_s, ↓kO_s, ↓kZ_s, ↓kE_s, ↓an_rfl, ↓bt1 n00, ↓bt2 n00, ↓bf1 n10, ↓bf2 n10, ↓an_sz0, ↓an_sz1, ↓an_sz2, ↓an_sz3, ↓an_sz4, ↓an_ri, ↓an_rb0, ↓an_rb1, ↓an_b0, ↓an_b1, true_and, ↓ai_0s, ↓al_0s, ↓av_0s, ↓aq_0s, ↓ai_1s, ↓al_1s, ↓av_1s, ↓aq_1s, ↓ai_2s, ↓al_2s, ↓av_2s, ↓aq_2s, ↓ai_3s, ↓al_3s, ↓av_3s, ↓aq_3s, ↓ai_4s, ↓al_4s, ↓av_4s, ↓aq_4s, ↓ai_5s, ↓al_5s, ↓av_5s, ↓aq_5s, ↓ai_6s, ↓al_6s, ↓av_6s, ↓aq_6s, ↓ai_7s, ↓al_7s, ↓av_7s, ↓aq_7s, ↓an_l3, ↓bk_7006, ↓Sg_7003, ↓an_t hc0, ↓an_rv hc0, ↓r1_e hc1, ↓av_0e hc1, ↓av_1e hc1, ↓av_2e hc1, ↓av_3e hc1, ↓oW_e hc2, ↓r1_e hc3, ↓av_0e hc3, ↓av_1e hc3, ↓av_2e hc3, ↓av_3e hc3, ↓oW_e hc4, ↓oW_e hc5, ↓oW_e hc6]
  rw [oW_some] at hs
  exact hs
set_option maxHeartbeats 4000000 in
set_option maxRecDepth 100000 in
theorem rl_7006_11 {C : px_C} (hn : px_nd (px_tb C)) {h : Nat} (hh : 4 ≤ h) (hC : px_ok C pn_i7006 h) {k : Option px_V → px_M → Prop} {x0 : Nat} {x1 : Int32} {x2 : Int32} {σ : px_M} (hs : oW (f_7006_11 (px_tb C) σ x0 x1 x2) (fun q => k (some (.inl q.1)) q.2)) : px_W C k 11 [some (.inr (.inr (some x0))), some (.inl x1), some (.inl x2)] [] σ := by
  refine px_runH (h - 1) ck_7006 [(11010, Sg_11010 (f_11010 (px_tb C)))] [(20, kp_7006_20 (fun y0 y1 y2 τ => oW (f_7006_20 (px_tb C) τ y0 y1 y2) (fun q => k (some (.inl q.1)) q.2)))] 80 3 (some .int) rfl rfl hC (px_sp1 (mf_11010 hn (by omega)) px_nosp) (by omega) (px_cut1 (kq_7006_20 (fun y0 y1 y2 τ hq => by exact rl_7006_20 hn (by omega) hC  hq)) px_nocut) (fun G Jf hG hJf => ?_)
  unfold f_7006_11 at hs
  obtain ⟨hc0, hs⟩ := oW_gx hs
  obtain ⟨n1, hc1, hs⟩ := oW_bx hs
  obtain ⟨hc2, hs⟩ := oW_gx hs
  obtain ⟨q2, hc3, hs⟩ := oW_bx hs
  simp (implicitDefEqProofs := false) only [↓hG, ↓hJf, ↓px_vc, ↓px_ex, ↓px_jp, ↓rq_gi_0, ↓rq_gi_S, ↓rq_gl_0, ↓rq_gl_S, ↓rq_gr_0, ↓rq_gr_S, ↓rq_s1_0, ↓rq_s1_1, ↓rq_s1_S, ↓rq_s2_0, ↓rq_s2_1, ↓rq_s2_S, ↓rq_nl_n, ↓rq_nl_i, ↓rq_nl_l, ↓rq_nl_r, ↓rq_i1_s, ↓rq_l1_s, ↓r1_s, ↓rq_q1_s, ↓rq_i2_s, ↓rq_l2_s, ↓rq_il_s, ↓rq_d0_s, ↓rq_d1_i, ↓rq_d1_r, ↓rq_d2_l, ↓rq_d2_ii, ↓rq_d2_ir, ↓px_pop, ↓px_sp, ↓px_rd, ↓px_rf, ↓pn_xf, ↓rq_pt_0, ↓rq_pt_1, ↓rq_pt_2, ↓rq_pt_3, ↓px_sw, ↓pn_SW, ↓px_ma, ↓reduceIte, Nat.reduceEqDiff, Nat.reduceAdd, Nat.reduceSub, ↓Option.toList_some, ↓Option.toList_none, ↓List.cons_append, ↓List.nil_append, ↓kI_s, ↓kJ_s, ↓kN_s, ↓kO_s, ↓kZ_s, ↓kE_s, ↓an_rfl, ↓bt1 n00, ↓bt2 n00, ↓bf1 n10, ↓bf2 n10, ↓an_sz0, ↓an_sz1, ↓an_sz2, ↓an_sz3, ↓an_sz4, ↓an_ri, ↓an_rb0, ↓an_rb1, ↓an_b0, ↓an_b1, true_and, ↓ai_0s, ↓al_0s, ↓av_0s, ↓aq_0s, ↓ai_1s, ↓al_1s, ↓av_1s, ↓aq_1s, ↓ai_2s, ↓al_2s, ↓av_2s, ↓aq_2s, ↓ai_3s, ↓al_3s, ↓av_3s, ↓aq_3s, ↓ai_4s, ↓al_4s, ↓av_4s, ↓aq_4s, ↓ai_5s, ↓al_5s, ↓av_5s, ↓aq_5s, ↓ai_6s, ↓al_6s, ↓av_6s, ↓aq_6s, ↓ai_7s, ↓al_7s, ↓av_7s, ↓aq_7s, ↓an_l3, ↓bk_7006, ↓Sg_11010, ↓kp_7006_20, ↓an_t hc0, ↓an_rv hc0, ↓r1_e hc1, ↓av_0e hc1, ↓av_1e hc1, ↓av_2e hc1, ↓av_3e hc1, ↓an_t hc2, ↓an_rv hc2, ↓an_rvo hc1 hc2, ↓oW_e hc3]
  exact hs
set_option maxHeartbeats 4000000 in
set_option maxRecDepth 100000 in
theorem mf_7006 {tab : px_T} (hn : px_nd tab) {h : Nat} (hh : 4 ≤ h) : px_Ok tab pn_i7006 h (Sg_7006 (f_7006 tab)) := by
  refine px_mth hn (by decide +kernel) (fun av σ k hS => ?_) (fun C hT hC av σ k hS => ?_)
  · obtain ⟨x0, av0, e0, h0⟩ := av_0p hS
    obtain ⟨x1, av1, e1, h1⟩ := ai_1p h0
    obtain ⟨x2, av2, e2, h2⟩ := ai_2p h1
    obtain ⟨ez, hs⟩ := h2
    subst ez
    subst e2
    subst e1
    subst e0
    exact Nat.le_of_ble_eq_true rfl
  · obtain ⟨x0, av0, e0, h0⟩ := av_0p hS
    obtain ⟨x1, av1, e1, h1⟩ := ai_1p h0
    obtain ⟨x2, av2, e2, h2⟩ := ai_2p h1
    obtain ⟨ez, hs⟩ := h2
    subst ez
    subst e2
    subst e1
    subst e0
    subst hT
    show px_W C k 0 [some (.inr (.inr (some x0))), some (.inl x1), some (.inl x2)] [] σ
    refine px_runH (h - 1) ck_7006 [(11007, Sg_11007 (f_11007 (px_tb C)))] [(11, kp_7006_11 (fun y0 y1 y2 τ => oW (f_7006_11 (px_tb C) τ y0 y1 y2) (fun q => k (some (.inl q.1)) q.2)))] 80 3 (some .int) rfl rfl hC (px_sp1 (mf_11007 hn (by omega)) px_nosp) (by omega) (px_cut1 (kq_7006_11 (fun y0 y1 y2 τ hq => by exact rl_7006_11 hn (by omega) hC  hq)) px_nocut) (fun G Jf hG hJf => ?_)
    unfold f_7006 at hs
    obtain ⟨hc0, hs⟩ := oW_gx hs
    obtain ⟨n1, hc1, hs⟩ := oW_bx hs
    obtain ⟨hc2, hs⟩ := oW_gx hs
    obtain ⟨n2, hc3, hs⟩ := oW_bx hs
    obtain ⟨q3, hc4, hs⟩ := oW_bx hs
    simp (implicitDefEqProofs := false) only [↓hG, ↓hJf, ↓px_vc, ↓px_ex, ↓px_jp, ↓rq_gi_0, ↓rq_gi_S, ↓rq_gl_0, ↓rq_gl_S, ↓rq_gr_0, ↓rq_gr_S, ↓rq_s1_0, ↓rq_s1_1, ↓rq_s1_S, ↓rq_s2_0, ↓rq_s2_1, ↓rq_s2_S, ↓rq_nl_n, ↓rq_nl_i, ↓rq_nl_l, ↓rq_nl_r, ↓rq_i1_s, ↓rq_l1_s, ↓r1_s, ↓rq_q1_s, ↓rq_i2_s, ↓rq_l2_s, ↓rq_il_s, ↓rq_d0_s, ↓rq_d1_i, ↓rq_d1_r, ↓rq_d2_l, ↓rq_d2_ii, ↓rq_d2_ir, ↓px_pop, ↓px_sp, ↓px_rd, ↓px_rf, ↓pn_xf, ↓rq_pt_0, ↓rq_pt_1, ↓rq_pt_2, ↓rq_pt_3, ↓px_sw, ↓pn_SW, ↓px_ma, ↓reduceIte, Nat.reduceEqDiff, Nat.reduceAdd, Nat.reduceSub, ↓Option.toList_some, ↓Option.toList_none, ↓List.cons_append, ↓List.nil_append, ↓kI_s, ↓kJ_s, ↓kN_s, ↓kO_s, ↓kZ_s, ↓kE_s, ↓an_rfl, ↓bt1 n00, ↓bt2 n00, ↓bf1 n10, ↓bf2 n10, ↓an_sz0, ↓an_sz1, ↓an_sz2, ↓an_sz3, ↓an_sz4, ↓an_ri, ↓an_rb0, ↓an_rb1, ↓an_b0, ↓an_b1, true_and, ↓ai_0s, ↓al_0s, ↓av_0s, ↓aq_0s, ↓ai_1s, ↓al_1s, ↓av_1s, ↓aq_1s, ↓ai_2s, ↓al_2s, ↓av_2s, ↓aq_2s, ↓ai_3s, ↓al_3s, ↓av_3s, ↓aq_3s, ↓ai_4s, ↓al_4s, ↓av_4s, ↓aq_4s, ↓ai_5s, ↓al_5s, ↓av_5s, ↓aq_5s, ↓ai_6s, ↓al_6s, ↓av_6s, ↓aq_6s, ↓ai_7s, ↓al_7s, ↓av_7s, ↓aq_7s, ↓an_l3, ↓bk_7006, ↓Sg_11007, ↓kp_7006_11, ↓an_t hc0, ↓an_rv hc0, ↓r1_e hc1, ↓av_0e hc1, ↓av_1e hc1, ↓av_2e hc1, ↓av_3e hc1, ↓an_t hc2, ↓an_rv hc2, ↓an_rvo hc1 hc2, ↓r1_e hc3, ↓av_0e hc3, ↓av_1e hc3, ↓av_2e hc3, ↓av_3e hc3, ↓oW_e hc4]
    exact hs
def Sg_7007 (g : px_M → Nat → Int32 → Int32 → Option (Int32 × px_M)) : px_S := fun av σ k => av_0 av (fun x0 av => ai_1 av (fun x1 av => ai_2 av (fun x2 av => av = [] ∧ oW (g σ x0 x1 x2) (fun q => k (some (.inl q.1)) q.2))))
/-- NoThree$Market.lureToJoin(II)I -/
noncomputable def f_7007_61 (tab : px_T) (σ : px_M) (x3 : Int32) (x4 : Int32) : Option (Int32 × px_M) := bn (x3 = x4) (some (((if x4 < x3 then x4 else x3), σ))) (some (((x3 - (nI 1)), σ)))
noncomputable def f_7007_40 (tab : px_T) (σ : px_M) (x0 : Nat) (x2 : Int32) (x3 : Int32) : Option (Int32 × px_M) := gd (px_obj (px_lay tab x0) 7) ((((σ).2.2 x0 1)).bind fun n1 => (f_7003 tab σ x0 n1 x2).bind fun r2 => (((σ).2.2 x0 0)).bind fun n3 => (f_7003 tab σ x0 n3 x2).bind fun r4 => f_7007_61 tab σ x3 ((r2 - r4)))
noncomputable def f_7007_20 (tab : px_T) (σ : px_M) (x0 : Nat) (x1 : Int32) (x2 : Int32) : Option (Int32 × px_M) := gd (px_obj (px_lay tab x0) 7) ((((σ).2.2 x0 1)).bind fun n1 => (f_7003 tab σ x0 n1 x1).bind fun r2 => (((σ).2.2 x0 0)).bind fun n3 => (f_7003 tab σ x0 n3 x1).bind fun r4 => f_7007_40 tab σ x0 x2 ((r2 - r4)))
noncomputable def f_7007 (tab : px_T) (σ : px_M) (x0 : Nat) (x1 : Int32) (x2 : Int32) : Option (Int32 × px_M) := gd (px_obj (px_lay tab x0) 7) ((((σ).2.2 x0 1)).bind fun n1 => gd (px_obj (px_lay tab n1) 11) ((((σ).2.2 x0 0)).bind fun n2 => (f_11007 tab σ n1 n2).bind fun q3 => (((q3).2.2 x0 1)).bind fun n4 => gd (px_obj (px_lay tab n4) 11) ((f_11009 tab q3 n4 x1 x2).bind fun q5 => f_7007_20 tab q5 x0 x1 x2)))
def kp_7007_61 (Q : Int32 → Int32 → px_M → Prop) : px_P := fun ls st τ => st = [] ∧ kZ ls (fun ls => kZ ls (fun ls => kZ ls (fun ls => kI ls (fun x3 ls => kI ls (fun x4 ls => kE ls (Q x3 x4 τ))))))
theorem kq_7007_61 {C : px_C} {k : Option px_V → px_M → Prop} {Q : Int32 → Int32 → px_M → Prop} (H : ∀ (x3 : Int32) (x4 : Int32) (τ : px_M), Q x3 x4 τ → ∀ (z0 : Option px_V) (z1 : Option px_V) (z2 : Option px_V), px_W C k 61 [z0, z1, z2, some (.inl x3), some (.inl x4)] [] τ) : ∀ ls st τ, kp_7007_61 Q ls st τ → px_W C k 61 ls st τ := by
  intro ls st τ hz
  obtain ⟨ez, h0⟩ := hz
  obtain ⟨z0, l0, e0, h1⟩ := kZ_sp h0
  obtain ⟨z1, l1, e1, h2⟩ := kZ_sp h1
  obtain ⟨z2, l2, e2, h3⟩ := kZ_sp h2
  obtain ⟨x3, l3, e3, h4⟩ := kI_sp h3
  obtain ⟨x4, l4, e4, h5⟩ := kI_sp h4
  obtain ⟨ey, hy⟩ := kE_sp h5
  subst ez
  subst ey
  subst e4
  subst e3
  subst e2
  subst e1
  subst e0
  exact H x3 x4 τ hy z0 z1 z2
def kp_7007_40 (Q : Nat → Int32 → Int32 → px_M → Prop) : px_P := fun ls st τ => st = [] ∧ kN ls (fun x0 ls => kZ ls (fun ls => kI ls (fun x2 ls => kI ls (fun x3 ls => kZ ls (fun ls => kE ls (Q x0 x2 x3 τ))))))
theorem kq_7007_40 {C : px_C} {k : Option px_V → px_M → Prop} {Q : Nat → Int32 → Int32 → px_M → Prop} (H : ∀ (x0 : Nat) (x2 : Int32) (x3 : Int32) (τ : px_M), Q x0 x2 x3 τ → ∀ (z1 : Option px_V) (z4 : Option px_V), px_W C k 40 [some (.inr (.inr (some x0))), z1, some (.inl x2), some (.inl x3), z4] [] τ) : ∀ ls st τ, kp_7007_40 Q ls st τ → px_W C k 40 ls st τ := by
  intro ls st τ hz
  obtain ⟨ez, h0⟩ := hz
  obtain ⟨x0, l0, e0, h1⟩ := kN_sp h0
  obtain ⟨z1, l1, e1, h2⟩ := kZ_sp h1
  obtain ⟨x2, l2, e2, h3⟩ := kI_sp h2
  obtain ⟨x3, l3, e3, h4⟩ := kI_sp h3
  obtain ⟨z4, l4, e4, h5⟩ := kZ_sp h4
  obtain ⟨ey, hy⟩ := kE_sp h5
  subst ez
  subst ey
  subst e4
  subst e3
  subst e2
  subst e1
  subst e0
  exact H x0 x2 x3 τ hy z1 z4
def kp_7007_20 (Q : Nat → Int32 → Int32 → px_M → Prop) : px_P := fun ls st τ => st = [] ∧ kN ls (fun x0 ls => kI ls (fun x1 ls => kI ls (fun x2 ls => kZ ls (fun ls => kZ ls (fun ls => kE ls (Q x0 x1 x2 τ))))))
theorem kq_7007_20 {C : px_C} {k : Option px_V → px_M → Prop} {Q : Nat → Int32 → Int32 → px_M → Prop} (H : ∀ (x0 : Nat) (x1 : Int32) (x2 : Int32) (τ : px_M), Q x0 x1 x2 τ → ∀ (z3 : Option px_V) (z4 : Option px_V), px_W C k 20 [some (.inr (.inr (some x0))), some (.inl x1), some (.inl x2), z3, z4] [] τ) : ∀ ls st τ, kp_7007_20 Q ls st τ → px_W C k 20 ls st τ := by
  intro ls st τ hz
  obtain ⟨ez, h0⟩ := hz
  obtain ⟨x0, l0, e0, h1⟩ := kN_sp h0
  obtain ⟨x1, l1, e1, h2⟩ := kI_sp h1
  obtain ⟨x2, l2, e2, h3⟩ := kI_sp h2
  obtain ⟨z3, l3, e3, h4⟩ := kZ_sp h3
  obtain ⟨z4, l4, e4, h5⟩ := kZ_sp h4
  obtain ⟨ey, hy⟩ := kE_sp h5
  subst ez
  subst ey
  subst e4
  subst e3
  subst e2
  subst e1
  subst e0
  exact H x0 x1 x2 τ hy z3 z4
set_option maxHeartbeats 4000000 in
set_option maxRecDepth 100000 in
theorem rl_7007_61 {C : px_C} (hn : px_nd (px_tb C)) {h : Nat} (hh : 4 ≤ h) (hC : px_ok C pn_i7007 h) {k : Option px_V → px_M → Prop} {x3 : Int32} {x4 : Int32} {σ : px_M} (hs : oW (f_7007_61 (px_tb C) σ x3 x4) (fun q => k (some (.inl q.1)) q.2)) : ∀ (z0 : Option px_V) (z1 : Option px_V) (z2 : Option px_V), px_W C k 61 [z0, z1, z2, some (.inl x3), some (.inl x4)] [] σ := by
  intro z0 z1 z2
  refine px_runH (h - 1) ck_7007 [] [] 80 5 (some .int) rfl rfl hC px_nosp (by omega) px_nocut (fun G Jf hG hJf => ?_)
  unfold f_7007_61 at hs
  by_cases hc0 : x3 = x4
  · replace hs := bW_t hs hc0
    simp (implicitDefEqProofs := false) only [↓hG, ↓hJf, ↓px_vc, ↓px_ex, ↓px_jp, ↓rq_gi_0, ↓rq_gi_S, ↓rq_gl_0, ↓rq_gl_S, ↓rq_gr_0, ↓rq_gr_S, ↓rq_s1_0, ↓rq_s1_1, ↓rq_s1_S, ↓rq_s2_0, ↓rq_s2_1, ↓rq_s2_S, ↓rq_nl_n, ↓rq_nl_i, ↓rq_nl_l, ↓rq_nl_r, ↓rq_i1_s, ↓rq_l1_s, ↓r1_s, ↓rq_q1_s, ↓rq_i2_s, ↓rq_l2_s, ↓rq_il_s, ↓rq_d0_s, ↓rq_d1_i, ↓rq_d1_r, ↓rq_d2_l, ↓rq_d2_ii, ↓rq_d2_ir, ↓px_pop, ↓px_sp, ↓px_rd, ↓px_rf, ↓pn_xf, ↓rq_pt_0, ↓rq_pt_1, ↓rq_pt_2, ↓rq_pt_3, ↓px_sw, ↓pn_SW, ↓px_ma, ↓reduceIte, Nat.reduceEqDiff, Nat.reduceAdd, Nat.reduceSub, ↓Option.toList_some, ↓Option.toList_none, ↓List.cons_append, ↓List.nil_append, ↓kI_s, ↓kJ_s, ↓kN_s, ↓kO_s, ↓kZ_s, ↓kE_s, ↓an_rfl, ↓bt1 n00, ↓bt2 n00, ↓bf1 n10, ↓bf2 n10, ↓an_sz0, ↓an_sz1, ↓an_sz2, ↓an_sz3, ↓an_sz4, ↓an_ri, ↓an_rb0, ↓an_rb1, ↓an_b0, ↓an_b1, true_and, ↓ai_0s, ↓al_0s, ↓av_0s, ↓aq_0s, ↓ai_1s, ↓al_1s, ↓av_1s, ↓aq_1s, ↓ai_2s, ↓al_2s, ↓av_2s, ↓aq_2s, ↓ai_3s, ↓al_3s, ↓av_3s, ↓aq_3s, ↓ai_4s, ↓al_4s, ↓av_4s, ↓aq_4s, ↓ai_5s, ↓al_5s, ↓av_5s, ↓aq_5s, ↓ai_6s, ↓al_6s, ↓av_6s, ↓aq_6s, ↓ai_7s, ↓al_7s, ↓av_7s, ↓aq_7s, ↓an_l5, ↓bk_7007, ↓bt1 hc0, ↓bt2 hc0]
    rw [oW_some] at hs
    exact hs
  · replace hs := bW_f hs hc0
    simp (implicitDefEqProofs := false) only [↓hG, ↓hJf, ↓px_vc, ↓px_ex, ↓px_jp, ↓rq_gi_0, ↓rq_gi_S, ↓rq_gl_0, ↓rq_gl_S, ↓rq_gr_0, ↓rq_gr_S, ↓rq_s1_0, ↓rq_s1_1, ↓rq_s1_S, ↓rq_s2_0, ↓rq_s2_1, ↓rq_s2_S, ↓rq_nl_n, ↓rq_nl_i, ↓rq_nl_l, ↓rq_nl_r, ↓rq_i1_s, ↓rq_l1_s, ↓r1_s, ↓rq_q1_s, ↓rq_i2_s, ↓rq_l2_s, ↓rq_il_s, ↓rq_d0_s, ↓rq_d1_i, ↓rq_d1_r, ↓rq_d2_l, ↓rq_d2_ii, ↓rq_d2_ir, ↓px_pop, ↓px_sp, ↓px_rd, ↓px_rf, ↓pn_xf, ↓rq_pt_0, ↓rq_pt_1, ↓rq_pt_2, ↓rq_pt_3, ↓px_sw, ↓pn_SW, ↓px_ma, ↓reduceIte, Nat.reduceEqDiff, Nat.reduceAdd, Nat.reduceSub, ↓Option.toList_some, ↓Option.toList_none, ↓List.cons_append, ↓List.nil_append, ↓kI_s, ↓kJ_s, ↓kN_s, ↓kO_s, ↓kZ_s, ↓kE_s, ↓an_rfl, ↓bt1 n00, ↓bt2 n00, ↓bf1 n10, ↓bf2 n10, ↓an_sz0, ↓an_sz1, ↓an_sz2, ↓an_sz3, ↓an_sz4, ↓an_ri, ↓an_rb0, ↓an_rb1, ↓an_b0, ↓an_b1, true_and, ↓ai_0s, ↓al_0s, ↓av_0s, ↓aq_0s, ↓ai_1s, ↓al_1s, ↓av_1s, ↓aq_1s, ↓ai_2s, ↓al_2s, ↓av_2s, ↓aq_2s, ↓ai_3s, ↓al_3s, ↓av_3s, ↓aq_3s, ↓ai_4s, ↓al_4s, ↓av_4s, ↓aq_4s, ↓ai_5s, ↓al_5s, ↓av_5s, ↓aq_5s, ↓ai_6s, ↓al_6s, ↓av_6s, ↓aq_6s, ↓ai_7s, ↓al_7s, ↓av_7s, ↓aq_7s, ↓an_l5, ↓bk_7007, ↓bf1 hc0, ↓bf2 hc0]
    rw [oW_some] at hs
    exact hs
set_option maxHeartbeats 4000000 in
set_option maxRecDepth 100000 in
theorem rl_7007_40 {C : px_C} (hn : px_nd (px_tb C)) {h : Nat} (hh : 4 ≤ h) (hC : px_ok C pn_i7007 h) {k : Option px_V → px_M → Prop} {x0 : Nat} {x2 : Int32} {x3 : Int32} {σ : px_M} (hs : oW (f_7007_40 (px_tb C) σ x0 x2 x3) (fun q => k (some (.inl q.1)) q.2)) : ∀ (z1 : Option px_V) (z4 : Option px_V), px_W C k 40 [some (.inr (.inr (some x0))), z1, some (.inl x2), some (.inl x3), z4] [] σ := by
  intro z1 z4
  refine px_runH (h - 1) ck_7007 [(7003, Sg_7003 (f_7003 (px_tb C)))] [(61, kp_7007_61 (fun y3 y4 τ => oW (f_7007_61 (px_tb C) τ y3 y4) (fun q => k (some (.inl q.1)) q.2)))] 80 5 (some .int) rfl rfl hC (px_sp1 (mf_7003 hn (by omega)) px_nosp) (by omega) (px_cut1 (kq_7007_61 (fun y3 y4 τ hq => by exact rl_7007_61 hn (by omega) hC  hq)) px_nocut) (fun G Jf hG hJf => ?_)
  unfold f_7007_40 at hs
  obtain ⟨hc0, hs⟩ := oW_gx hs
  obtain ⟨n1, hc1, hs⟩ := oW_bx hs
  obtain ⟨r2, hc2, hs⟩ := oW_bx hs
  obtain ⟨n3, hc3, hs⟩ := oW_bx hs
  obtain ⟨r4, hc4, hs⟩ := oW_bx hs
  simp (implicitDefEqProofs := false) only [↓hG, ↓hJf, ↓px_vc, ↓px_ex, ↓px_jp, ↓rq_gi_0, ↓rq_gi_S, ↓rq_gl_0, ↓rq_gl_S, ↓rq_gr_0, ↓rq_gr_S, ↓rq_s1_0, ↓rq_s1_1, ↓rq_s1_S, ↓rq_s2_0, ↓rq_s2_1, ↓rq_s2_S, ↓rq_nl_n, ↓rq_nl_i, ↓rq_nl_l, ↓rq_nl_r, ↓rq_i1_s, ↓rq_l1_s, ↓r1_s, ↓rq_q1_s, ↓rq_i2_s, ↓rq_l2_s, ↓rq_il_s, ↓rq_d0_s, ↓rq_d1_i, ↓rq_d1_r, ↓rq_d2_l, ↓rq_d2_ii, ↓rq_d2_ir, ↓px_pop, ↓px_sp, ↓px_rd, ↓px_rf, ↓pn_xf, ↓rq_pt_0, ↓rq_pt_1, ↓rq_pt_2, ↓rq_pt_3, ↓px_sw, ↓pn_SW, ↓px_ma, ↓reduceIte, Nat.reduceEqDiff, Nat.reduceAdd, Nat.reduceSub, ↓Option.toList_some, ↓Option.toList_none, ↓List.cons_append, ↓List.nil_append, ↓kI_s, ↓kJ_s, ↓kN_s, ↓kO_s, ↓kZ_s, ↓kE_s, ↓an_rfl, ↓bt1 n00, ↓bt2 n00, ↓bf1 n10, ↓bf2 n10, ↓an_sz0, ↓an_sz1, ↓an_sz2, ↓an_sz3, ↓an_sz4, ↓an_ri, ↓an_rb0, ↓an_rb1, ↓an_b0, ↓an_b1, true_and, ↓ai_0s, ↓al_0s, ↓av_0s, ↓aq_0s, ↓ai_1s, ↓al_1s, ↓av_1s, ↓aq_1s, ↓ai_2s, ↓al_2s, ↓av_2s, ↓aq_2s, ↓ai_3s, ↓al_3s, ↓av_3s, ↓aq_3s, ↓ai_4s, ↓al_4s, ↓av_4s, ↓aq_4s, ↓ai_5s, ↓al_5s, ↓av_5s, ↓aq_5s, ↓ai_6s, ↓al_6s, ↓av_6s, ↓aq_6s, ↓ai_7s, ↓al_7s, ↓av_7s, ↓aq_7s, ↓an_l5, ↓bk_7007, ↓Sg_7003, ↓kp_7007_61, ↓an_t hc0, ↓an_rv hc0, ↓r1_e hc1, ↓av_0e hc1, ↓av_1e hc1, ↓av_2e hc1, ↓av_3e hc1, ↓oW_e hc2, ↓r1_e hc3, ↓av_0e hc3, ↓av_1e hc3, ↓av_2e hc3, ↓av_3e hc3, ↓oW_e hc4]
  exact hs
set_option maxHeartbeats 4000000 in
set_option maxRecDepth 100000 in
theorem rl_7007_20 {C : px_C} (hn : px_nd (px_tb C)) {h : Nat} (hh : 4 ≤ h) (hC : px_ok C pn_i7007 h) {k : Option px_V → px_M → Prop} {x0 : Nat} {x1 : Int32} {x2 : Int32} {σ : px_M} (hs : oW (f_7007_20 (px_tb C) σ x0 x1 x2) (fun q => k (some (.inl q.1)) q.2)) : ∀ (z3 : Option px_V) (z4 : Option px_V), px_W C k 20 [some (.inr (.inr (some x0))), some (.inl x1), some (.inl x2), z3, z4] [] σ := by
  intro z3 z4
  refine px_runH (h - 1) ck_7007 [(7003, Sg_7003 (f_7003 (px_tb C)))] [(40, kp_7007_40 (fun y0 y2 y3 τ => oW (f_7007_40 (px_tb C) τ y0 y2 y3) (fun q => k (some (.inl q.1)) q.2)))] 80 5 (some .int) rfl rfl hC (px_sp1 (mf_7003 hn (by omega)) px_nosp) (by omega) (px_cut1 (kq_7007_40 (fun y0 y2 y3 τ hq => by exact rl_7007_40 hn (by omega) hC  hq)) px_nocut) (fun G Jf hG hJf => ?_)
  unfold f_7007_20 at hs
  obtain ⟨hc0, hs⟩ := oW_gx hs
  obtain ⟨n1, hc1, hs⟩ := oW_bx hs
  obtain ⟨r2, hc2, hs⟩ := oW_bx hs
  obtain ⟨n3, hc3, hs⟩ := oW_bx hs
  obtain ⟨r4, hc4, hs⟩ := oW_bx hs
  simp (implicitDefEqProofs := false) only [↓hG, ↓hJf, ↓px_vc, ↓px_ex, ↓px_jp, ↓rq_gi_0, ↓rq_gi_S, ↓rq_gl_0, ↓rq_gl_S, ↓rq_gr_0, ↓rq_gr_S, ↓rq_s1_0, ↓rq_s1_1, ↓rq_s1_S, ↓rq_s2_0, ↓rq_s2_1, ↓rq_s2_S, ↓rq_nl_n, ↓rq_nl_i, ↓rq_nl_l, ↓rq_nl_r, ↓rq_i1_s, ↓rq_l1_s, ↓r1_s, ↓rq_q1_s, ↓rq_i2_s, ↓rq_l2_s, ↓rq_il_s, ↓rq_d0_s, ↓rq_d1_i, ↓rq_d1_r, ↓rq_d2_l, ↓rq_d2_ii, ↓rq_d2_ir, ↓px_pop, ↓px_sp, ↓px_rd, ↓px_rf, ↓pn_xf, ↓rq_pt_0, ↓rq_pt_1, ↓rq_pt_2, ↓rq_pt_3, ↓px_sw, ↓pn_SW, ↓px_ma, ↓reduceIte, Nat.reduceEqDiff, Nat.reduceAdd, Nat.reduceSub, ↓Option.toList_some, ↓Option.toList_none, ↓List.cons_append, ↓List.nil_append, ↓kI_s, ↓kJ_s, ↓kN_s, ↓kO_s, ↓kZ_s, ↓kE_s, ↓an_rfl, ↓bt1 n00, ↓bt2 n00, ↓bf1 n10, ↓bf2 n10, ↓an_sz0, ↓an_sz1, ↓an_sz2, ↓an_sz3, ↓an_sz4, ↓an_ri, ↓an_rb0, ↓an_rb1, ↓an_b0, ↓an_b1, true_and, ↓ai_0s, ↓al_0s, ↓av_0s, ↓aq_0s, ↓ai_1s, ↓al_1s, ↓av_1s, ↓aq_1s, ↓ai_2s, ↓al_2s, ↓av_2s, ↓aq_2s, ↓ai_3s, ↓al_3s, ↓av_3s, ↓aq_3s, ↓ai_4s, ↓al_4s, ↓av_4s, ↓aq_4s, ↓ai_5s, ↓al_5s, ↓av_5s, ↓aq_5s, ↓ai_6s, ↓al_6s, ↓av_6s, ↓aq_6s, ↓ai_7s, ↓al_7s, ↓av_7s, ↓aq_7s, ↓an_l5, ↓bk_7007, ↓Sg_7003, ↓kp_7007_40, ↓an_t hc0, ↓an_rv hc0, ↓r1_e hc1, ↓av_0e hc1, ↓av_1e hc1, ↓av_2e hc1, ↓av_3e hc1, ↓oW_e hc2, ↓r1_e hc3, ↓av_0e hc3, ↓av_1e hc3, ↓av_2e hc3, ↓av_3e hc3, ↓oW_e hc4]
  exact hs
set_option maxHeartbeats 4000000 in
set_option maxRecDepth 100000 in
theorem mf_7007 {tab : px_T} (hn : px_nd tab) {h : Nat} (hh : 4 ≤ h) : px_Ok tab pn_i7007 h (Sg_7007 (f_7007 tab)) := by
  refine px_mth hn (by decide +kernel) (fun av σ k hS => ?_) (fun C hT hC av σ k hS => ?_)
  · obtain ⟨x0, av0, e0, h0⟩ := av_0p hS
    obtain ⟨x1, av1, e1, h1⟩ := ai_1p h0
    obtain ⟨x2, av2, e2, h2⟩ := ai_2p h1
    obtain ⟨ez, hs⟩ := h2
    subst ez
    subst e2
    subst e1
    subst e0
    exact Nat.le_of_ble_eq_true rfl
  · obtain ⟨x0, av0, e0, h0⟩ := av_0p hS
    obtain ⟨x1, av1, e1, h1⟩ := ai_1p h0
    obtain ⟨x2, av2, e2, h2⟩ := ai_2p h1
    obtain ⟨ez, hs⟩ := h2
    subst ez
    subst e2
    subst e1
    subst e0
    subst hT
    show px_W C k 0 [some (.inr (.inr (some x0))), some (.inl x1), some (.inl x2), none, none] [] σ
    refine px_runH (h - 1) ck_7007 [(11007, Sg_11007 (f_11007 (px_tb C))), (11009, Sg_11009 (f_11009 (px_tb C)))] [(20, kp_7007_20 (fun y0 y1 y2 τ => oW (f_7007_20 (px_tb C) τ y0 y1 y2) (fun q => k (some (.inl q.1)) q.2)))] 80 5 (some .int) rfl rfl hC (px_sp1 (mf_11007 hn (by omega)) (px_sp1 (mf_11009 hn (by omega)) px_nosp)) (by omega) (px_cut1 (kq_7007_20 (fun y0 y1 y2 τ hq => by exact rl_7007_20 hn (by omega) hC  hq)) px_nocut) (fun G Jf hG hJf => ?_)
    unfold f_7007 at hs
    obtain ⟨hc0, hs⟩ := oW_gx hs
    obtain ⟨n1, hc1, hs⟩ := oW_bx hs
    obtain ⟨hc2, hs⟩ := oW_gx hs
    obtain ⟨n2, hc3, hs⟩ := oW_bx hs
    obtain ⟨q3, hc4, hs⟩ := oW_bx hs
    obtain ⟨n4, hc5, hs⟩ := oW_bx hs
    obtain ⟨hc6, hs⟩ := oW_gx hs
    obtain ⟨q5, hc7, hs⟩ := oW_bx hs
    simp (implicitDefEqProofs := false) only [↓hG, ↓hJf, ↓px_vc, ↓px_ex, ↓px_jp, ↓rq_gi_0, ↓rq_gi_S, ↓rq_gl_0, ↓rq_gl_S, ↓rq_gr_0, ↓rq_gr_S, ↓rq_s1_0, ↓rq_s1_1, ↓rq_s1_S, ↓rq_s2_0, ↓rq_s2_1, ↓rq_s2_S, ↓rq_nl_n, ↓rq_nl_i, ↓rq_nl_l, ↓rq_nl_r, ↓rq_i1_s, ↓rq_l1_s, ↓r1_s, ↓rq_q1_s, ↓rq_i2_s, ↓rq_l2_s, ↓rq_il_s, ↓rq_d0_s, ↓rq_d1_i, ↓rq_d1_r, ↓rq_d2_l, ↓rq_d2_ii, ↓rq_d2_ir, ↓px_pop, ↓px_sp, ↓px_rd, ↓px_rf, ↓pn_xf, ↓rq_pt_0, ↓rq_pt_1, ↓rq_pt_2, ↓rq_pt_3, ↓px_sw, ↓pn_SW, ↓px_ma, ↓reduceIte, Nat.reduceEqDiff, Nat.reduceAdd, Nat.reduceSub, ↓Option.toList_some, ↓Option.toList_none, ↓List.cons_append, ↓List.nil_append, ↓kI_s, ↓kJ_s, ↓kN_s, ↓kO_s, ↓kZ_s, ↓kE_s, ↓an_rfl, ↓bt1 n00, ↓bt2 n00, ↓bf1 n10, ↓bf2 n10, ↓an_sz0, ↓an_sz1, ↓an_sz2, ↓an_sz3, ↓an_sz4, ↓an_ri, ↓an_rb0, ↓an_rb1, ↓an_b0, ↓an_b1, true_and, ↓ai_0s, ↓al_0s, ↓av_0s, ↓aq_0s, ↓ai_1s, ↓al_1s, ↓av_1s, ↓aq_1s, ↓ai_2s, ↓al_2s, ↓av_2s, ↓aq_2s, ↓ai_3s, ↓al_3s, ↓av_3s, ↓aq_3s, ↓ai_4s, ↓al_4s, ↓av_4s, ↓aq_4s, ↓ai_5s, ↓al_5s, ↓av_5s, ↓aq_5s, ↓ai_6s, ↓al_6s, ↓av_6s, ↓aq_6s, ↓ai_7s, ↓al_7s, ↓av_7s, ↓aq_7s, ↓an_l5, ↓bk_7007, ↓Sg_11007, ↓Sg_11009, ↓kp_7007_20, ↓an_t hc0, ↓an_rv hc0, ↓r1_e hc1, ↓av_0e hc1, ↓av_1e hc1, ↓av_2e hc1, ↓av_3e hc1, ↓an_t hc2, ↓an_rv hc2, ↓an_rvo hc1 hc2, ↓r1_e hc3, ↓av_0e hc3, ↓av_1e hc3, ↓av_2e hc3, ↓av_3e hc3, ↓oW_e hc4, ↓r1_e hc5, ↓av_0e hc5, ↓av_1e hc5, ↓av_2e hc5, ↓av_3e hc5, ↓an_t hc6, ↓an_rv hc6, ↓an_rvo hc5 hc6, ↓oW_e hc7]
    exact hs
def Sg_7004 (g : px_M → Nat → Nat → Nat → Int32 → Option (Int32 × px_M)) : px_S := fun av σ k => av_0 av (fun x0 av => av_1 av (fun x1 av => av_2 av (fun x2 av => ai_3 av (fun x3 av => av = [] ∧ oW (g σ x0 x1 x2 x3) (fun q => k (some (.inl q.1)) q.2)))))
/-- NoThree$Market.nextChange(LNoThree$Rules;LNoThree$Council;I)I -/
noncomputable def f_7004_168 (tab : px_T) (σ : px_M) (x0 : Nat) (x2 : Nat) (x3 : Int32) (x4 : Int32) (x5 : Int32) : Option ((Int32 × px_M) ⊕ ((Int32 × px_M) ⊕ (Int32 × px_M))) := some (.inl (((x5 + (nI 1)), σ)))
noncomputable def f_7004_148 (tab : px_T) (σ : px_M) (x0 : Nat) (x2 : Nat) (x3 : Int32) (x4 : Int32) (x5 : Int32) : Option ((Int32 × px_M) ⊕ ((Int32 × px_M) ⊕ (Int32 × px_M))) := gd (px_obj (px_lay tab x2) 2) ((f_2005 tab σ x2 x4 x5).bind fun q1 => bn (q1.1 = nI 0) (f_7004_168 tab q1.2 x0 x2 x3 x4 x5) (some (.inr (.inr (((((nI 100) * x4) + x5), q1.2))))))
noncomputable def F_7004_110 (tab : px_T) (x0 : Nat) (x2 : Nat) (x3 : Int32) (x4 : Int32) (x5 : Int32) (σ : px_M) : Option ((Int32 × px_M) ⊕ ((Int32 × px_M) ⊕ (Int32 × px_M))) := gd (px_obj (px_lay tab x0) 7) ((((σ).2.2 x0 0)).bind fun n1 => gd (px_obj (px_lay tab n1) 11) (if ((σ).1 n1 0) ≤ x5 then (some (.inr (.inl (((x4 + (nI 1)), σ))))) else ((f_11006 tab σ n1 x4 x5).bind fun r2 => bn (r2 = nI 0) (f_7004_168 tab σ x0 x2 x3 x4 x5) ((f_7007 tab σ x0 x4 x5).bind fun q3 => if q3.1 < x3 then (f_7004_168 tab q3.2 x0 x2 x3 x4 x5) else (f_7004_148 tab q3.2 x0 x2 x3 x4 x5)))))
noncomputable def f_7004_110 (tab : px_T) (x0 : Nat) (x2 : Nat) (x3 : Int32) (x4 : Int32) (x5 : Int32) (σ : px_M) : Option ((Int32 × px_M) ⊕ (Int32 × px_M)) := lpO (fun s : Int32 × px_M => F_7004_110 tab x0 x2 x3 x4 s.1 s.2) (x5, σ)
theorem f_7004_110_eq (tab : px_T) (x0 : Nat) (x2 : Nat) (x3 : Int32) (x4 : Int32) (x5 : Int32) (σ : px_M) : f_7004_110 tab x0 x2 x3 x4 x5 σ = (F_7004_110 tab x0 x2 x3 x4 x5 σ).bind (Sum.elim (fun s => f_7004_110 tab x0 x2 x3 x4 s.1 s.2) some) := lpO_eq _ _
noncomputable def F_7004_92 (tab : px_T) (x0 : Nat) (x2 : Nat) (x3 : Int32) (x4 : Int32) (σ : px_M) : Option ((Int32 × px_M) ⊕ (Int32 × px_M)) := gd (px_obj (px_lay tab x0) 7) ((((σ).2.2 x0 0)).bind fun n1 => gd (px_obj (px_lay tab n1) 11) (if ((σ).1 n1 0) ≤ x4 then (some (.inr (((-1), σ)))) else (f_7004_110 tab x0 x2 x3 x4 ((x4 + (nI 1))) σ)))
noncomputable def f_7004_92 (tab : px_T) (x0 : Nat) (x2 : Nat) (x3 : Int32) (x4 : Int32) (σ : px_M) : Option (Int32 × px_M) := lpO (fun s : Int32 × px_M => F_7004_92 tab x0 x2 x3 s.1 s.2) (x4, σ)
theorem f_7004_92_eq (tab : px_T) (x0 : Nat) (x2 : Nat) (x3 : Int32) (x4 : Int32) (σ : px_M) : f_7004_92 tab x0 x2 x3 x4 σ = (F_7004_92 tab x0 x2 x3 x4 σ).bind (Sum.elim (fun s => f_7004_92 tab x0 x2 x3 s.1 s.2) some) := lpO_eq _ _
noncomputable def f_7004_68 (tab : px_T) (σ : px_M) (x0 : Nat) (x1 : Nat) (x2 : Nat) (x3 : Int32) (x4 : Int32) (x5 : Int32) : Option ((Int32 × px_M) ⊕ ((Int32 × px_M) ⊕ (Int32 × px_M))) := some (.inl (((x5 + (nI 1)), σ)))
noncomputable def f_7004_59 (tab : px_T) (σ : px_M) (x4 : Int32) (x5 : Int32) : Option (Int32 × px_M) := some (((((nI 100) * x4) + x5), σ))
noncomputable def F_7004_21 (tab : px_T) (x0 : Nat) (x1 : Nat) (x2 : Nat) (x3 : Int32) (x4 : Int32) (x5 : Int32) (σ : px_M) : Option ((Int32 × px_M) ⊕ ((Int32 × px_M) ⊕ (Int32 × px_M))) := gd (px_obj (px_lay tab x0) 7) ((((σ).2.2 x0 0)).bind fun n1 => gd (px_obj (px_lay tab n1) 11) (if ((σ).1 n1 0) ≤ x5 then (some (.inr (.inl (((x4 + (nI 1)), σ))))) else ((f_11006 tab σ n1 x4 x5).bind fun r2 => if r2 = nI 0 then (f_7004_68 tab σ x0 x1 x2 x3 x4 x5) else ((f_7006 tab σ x0 x4 x5).bind fun q3 => if x3 ≤ q3.1 then (f_7004_68 tab q3.2 x0 x1 x2 x3 x4 x5) else (Option.map Sum.inr (Option.map Sum.inr (f_7004_59 tab q3.2 x4 x5)))))))
noncomputable def f_7004_21 (tab : px_T) (x0 : Nat) (x1 : Nat) (x2 : Nat) (x3 : Int32) (x4 : Int32) (x5 : Int32) (σ : px_M) : Option ((Int32 × px_M) ⊕ (Int32 × px_M)) := lpO (fun s : Int32 × px_M => F_7004_21 tab x0 x1 x2 x3 x4 s.1 s.2) (x5, σ)
theorem f_7004_21_eq (tab : px_T) (x0 : Nat) (x1 : Nat) (x2 : Nat) (x3 : Int32) (x4 : Int32) (x5 : Int32) (σ : px_M) : f_7004_21 tab x0 x1 x2 x3 x4 x5 σ = (F_7004_21 tab x0 x1 x2 x3 x4 x5 σ).bind (Sum.elim (fun s => f_7004_21 tab x0 x1 x2 x3 x4 s.1 s.2) some) := lpO_eq _ _
noncomputable def F_7004_3 (tab : px_T) (x0 : Nat) (x1 : Nat) (x2 : Nat) (x3 : Int32) (x4 : Int32) (σ : px_M) : Option ((Int32 × px_M) ⊕ (Int32 × px_M)) := gd (px_obj (px_lay tab x0) 7) ((((σ).2.2 x0 0)).bind fun n1 => gd (px_obj (px_lay tab n1) 11) (if ((σ).1 n1 0) ≤ x4 then (gd (px_obj (px_lay tab x2) 2) ((f_2002 tab σ x2 x1 n1).bind fun q2 => Option.map Sum.inr (f_7004_92 tab x0 x2 x3 ((nI 0)) q2))) else (f_7004_21 tab x0 x1 x2 x3 x4 ((x4 + (nI 1))) σ)))
noncomputable def f_7004_3 (tab : px_T) (x0 : Nat) (x1 : Nat) (x2 : Nat) (x3 : Int32) (x4 : Int32) (σ : px_M) : Option (Int32 × px_M) := lpO (fun s : Int32 × px_M => F_7004_3 tab x0 x1 x2 x3 s.1 s.2) (x4, σ)
theorem f_7004_3_eq (tab : px_T) (x0 : Nat) (x1 : Nat) (x2 : Nat) (x3 : Int32) (x4 : Int32) (σ : px_M) : f_7004_3 tab x0 x1 x2 x3 x4 σ = (F_7004_3 tab x0 x1 x2 x3 x4 σ).bind (Sum.elim (fun s => f_7004_3 tab x0 x1 x2 x3 s.1 s.2) some) := lpO_eq _ _
noncomputable def f_7004 (tab : px_T) (σ : px_M) (x0 : Nat) (x1 : Nat) (x2 : Nat) (x3 : Int32) : Option (Int32 × px_M) := f_7004_3 tab x0 x1 x2 x3 ((nI 0)) σ
def kp_7004_168 (Q : Nat → Nat → Int32 → Int32 → Int32 → px_M → Prop) : px_P := fun ls st τ => st = [] ∧ kN ls (fun x0 ls => kZ ls (fun ls => kN ls (fun x2 ls => kI ls (fun x3 ls => kI ls (fun x4 ls => kI ls (fun x5 ls => kE ls (Q x0 x2 x3 x4 x5 τ)))))))
theorem kq_7004_168 {C : px_C} {k : Option px_V → px_M → Prop} {Q : Nat → Nat → Int32 → Int32 → Int32 → px_M → Prop} (H : ∀ (x0 : Nat) (x2 : Nat) (x3 : Int32) (x4 : Int32) (x5 : Int32) (τ : px_M), Q x0 x2 x3 x4 x5 τ → ∀ (z1 : Option px_V), px_W C k 168 [some (.inr (.inr (some x0))), z1, some (.inr (.inr (some x2))), some (.inl x3), some (.inl x4), some (.inl x5)] [] τ) : ∀ ls st τ, kp_7004_168 Q ls st τ → px_W C k 168 ls st τ := by
  intro ls st τ hz
  obtain ⟨ez, h0⟩ := hz
  obtain ⟨x0, l0, e0, h1⟩ := kN_sp h0
  obtain ⟨z1, l1, e1, h2⟩ := kZ_sp h1
  obtain ⟨x2, l2, e2, h3⟩ := kN_sp h2
  obtain ⟨x3, l3, e3, h4⟩ := kI_sp h3
  obtain ⟨x4, l4, e4, h5⟩ := kI_sp h4
  obtain ⟨x5, l5, e5, h6⟩ := kI_sp h5
  obtain ⟨ey, hy⟩ := kE_sp h6
  subst ez
  subst ey
  subst e5
  subst e4
  subst e3
  subst e2
  subst e1
  subst e0
  exact H x0 x2 x3 x4 x5 τ hy z1
def kp_7004_148 (Q : Nat → Nat → Int32 → Int32 → Int32 → px_M → Prop) : px_P := fun ls st τ => st = [] ∧ kN ls (fun x0 ls => kZ ls (fun ls => kN ls (fun x2 ls => kI ls (fun x3 ls => kI ls (fun x4 ls => kI ls (fun x5 ls => kE ls (Q x0 x2 x3 x4 x5 τ)))))))
theorem kq_7004_148 {C : px_C} {k : Option px_V → px_M → Prop} {Q : Nat → Nat → Int32 → Int32 → Int32 → px_M → Prop} (H : ∀ (x0 : Nat) (x2 : Nat) (x3 : Int32) (x4 : Int32) (x5 : Int32) (τ : px_M), Q x0 x2 x3 x4 x5 τ → ∀ (z1 : Option px_V), px_W C k 148 [some (.inr (.inr (some x0))), z1, some (.inr (.inr (some x2))), some (.inl x3), some (.inl x4), some (.inl x5)] [] τ) : ∀ ls st τ, kp_7004_148 Q ls st τ → px_W C k 148 ls st τ := by
  intro ls st τ hz
  obtain ⟨ez, h0⟩ := hz
  obtain ⟨x0, l0, e0, h1⟩ := kN_sp h0
  obtain ⟨z1, l1, e1, h2⟩ := kZ_sp h1
  obtain ⟨x2, l2, e2, h3⟩ := kN_sp h2
  obtain ⟨x3, l3, e3, h4⟩ := kI_sp h3
  obtain ⟨x4, l4, e4, h5⟩ := kI_sp h4
  obtain ⟨x5, l5, e5, h6⟩ := kI_sp h5
  obtain ⟨ey, hy⟩ := kE_sp h6
  subst ez
  subst ey
  subst e5
  subst e4
  subst e3
  subst e2
  subst e1
  subst e0
  exact H x0 x2 x3 x4 x5 τ hy z1
def kp_7004_110 (Q : Nat → Nat → Int32 → Int32 → Int32 → px_M → Prop) : px_P := fun ls st τ => st = [] ∧ kN ls (fun x0 ls => kZ ls (fun ls => kN ls (fun x2 ls => kI ls (fun x3 ls => kI ls (fun x4 ls => kI ls (fun x5 ls => kE ls (Q x0 x2 x3 x4 x5 τ)))))))
theorem kq_7004_110 {C : px_C} {k : Option px_V → px_M → Prop} {Q : Nat → Nat → Int32 → Int32 → Int32 → px_M → Prop} (H : ∀ (x0 : Nat) (x2 : Nat) (x3 : Int32) (x4 : Int32) (x5 : Int32) (τ : px_M), Q x0 x2 x3 x4 x5 τ → ∀ (z1 : Option px_V), px_W C k 110 [some (.inr (.inr (some x0))), z1, some (.inr (.inr (some x2))), some (.inl x3), some (.inl x4), some (.inl x5)] [] τ) : ∀ ls st τ, kp_7004_110 Q ls st τ → px_W C k 110 ls st τ := by
  intro ls st τ hz
  obtain ⟨ez, h0⟩ := hz
  obtain ⟨x0, l0, e0, h1⟩ := kN_sp h0
  obtain ⟨z1, l1, e1, h2⟩ := kZ_sp h1
  obtain ⟨x2, l2, e2, h3⟩ := kN_sp h2
  obtain ⟨x3, l3, e3, h4⟩ := kI_sp h3
  obtain ⟨x4, l4, e4, h5⟩ := kI_sp h4
  obtain ⟨x5, l5, e5, h6⟩ := kI_sp h5
  obtain ⟨ey, hy⟩ := kE_sp h6
  subst ez
  subst ey
  subst e5
  subst e4
  subst e3
  subst e2
  subst e1
  subst e0
  exact H x0 x2 x3 x4 x5 τ hy z1
def kp_7004_92 (Q : Nat → Nat → Int32 → Int32 → px_M → Prop) : px_P := fun ls st τ => st = [] ∧ kN ls (fun x0 ls => kZ ls (fun ls => kN ls (fun x2 ls => kI ls (fun x3 ls => kI ls (fun x4 ls => kZ ls (fun ls => kE ls (Q x0 x2 x3 x4 τ)))))))
theorem kq_7004_92 {C : px_C} {k : Option px_V → px_M → Prop} {Q : Nat → Nat → Int32 → Int32 → px_M → Prop} (H : ∀ (x0 : Nat) (x2 : Nat) (x3 : Int32) (x4 : Int32) (τ : px_M), Q x0 x2 x3 x4 τ → ∀ (z1 : Option px_V) (z5 : Option px_V), px_W C k 92 [some (.inr (.inr (some x0))), z1, some (.inr (.inr (some x2))), some (.inl x3), some (.inl x4), z5] [] τ) : ∀ ls st τ, kp_7004_92 Q ls st τ → px_W C k 92 ls st τ := by
  intro ls st τ hz
  obtain ⟨ez, h0⟩ := hz
  obtain ⟨x0, l0, e0, h1⟩ := kN_sp h0
  obtain ⟨z1, l1, e1, h2⟩ := kZ_sp h1
  obtain ⟨x2, l2, e2, h3⟩ := kN_sp h2
  obtain ⟨x3, l3, e3, h4⟩ := kI_sp h3
  obtain ⟨x4, l4, e4, h5⟩ := kI_sp h4
  obtain ⟨z5, l5, e5, h6⟩ := kZ_sp h5
  obtain ⟨ey, hy⟩ := kE_sp h6
  subst ez
  subst ey
  subst e5
  subst e4
  subst e3
  subst e2
  subst e1
  subst e0
  exact H x0 x2 x3 x4 τ hy z1 z5
def kp_7004_68 (Q : Nat → Nat → Nat → Int32 → Int32 → Int32 → px_M → Prop) : px_P := fun ls st τ => st = [] ∧ kN ls (fun x0 ls => kN ls (fun x1 ls => kN ls (fun x2 ls => kI ls (fun x3 ls => kI ls (fun x4 ls => kI ls (fun x5 ls => kE ls (Q x0 x1 x2 x3 x4 x5 τ)))))))
theorem kq_7004_68 {C : px_C} {k : Option px_V → px_M → Prop} {Q : Nat → Nat → Nat → Int32 → Int32 → Int32 → px_M → Prop} (H : ∀ (x0 : Nat) (x1 : Nat) (x2 : Nat) (x3 : Int32) (x4 : Int32) (x5 : Int32) (τ : px_M), Q x0 x1 x2 x3 x4 x5 τ → px_W C k 68 [some (.inr (.inr (some x0))), some (.inr (.inr (some x1))), some (.inr (.inr (some x2))), some (.inl x3), some (.inl x4), some (.inl x5)] [] τ) : ∀ ls st τ, kp_7004_68 Q ls st τ → px_W C k 68 ls st τ := by
  intro ls st τ hz
  obtain ⟨ez, h0⟩ := hz
  obtain ⟨x0, l0, e0, h1⟩ := kN_sp h0
  obtain ⟨x1, l1, e1, h2⟩ := kN_sp h1
  obtain ⟨x2, l2, e2, h3⟩ := kN_sp h2
  obtain ⟨x3, l3, e3, h4⟩ := kI_sp h3
  obtain ⟨x4, l4, e4, h5⟩ := kI_sp h4
  obtain ⟨x5, l5, e5, h6⟩ := kI_sp h5
  obtain ⟨ey, hy⟩ := kE_sp h6
  subst ez
  subst ey
  subst e5
  subst e4
  subst e3
  subst e2
  subst e1
  subst e0
  exact H x0 x1 x2 x3 x4 x5 τ hy
def kp_7004_59 (Q : Int32 → Int32 → px_M → Prop) : px_P := fun ls st τ => st = [] ∧ kZ ls (fun ls => kZ ls (fun ls => kZ ls (fun ls => kZ ls (fun ls => kI ls (fun x4 ls => kI ls (fun x5 ls => kE ls (Q x4 x5 τ)))))))
theorem kq_7004_59 {C : px_C} {k : Option px_V → px_M → Prop} {Q : Int32 → Int32 → px_M → Prop} (H : ∀ (x4 : Int32) (x5 : Int32) (τ : px_M), Q x4 x5 τ → ∀ (z0 : Option px_V) (z1 : Option px_V) (z2 : Option px_V) (z3 : Option px_V), px_W C k 59 [z0, z1, z2, z3, some (.inl x4), some (.inl x5)] [] τ) : ∀ ls st τ, kp_7004_59 Q ls st τ → px_W C k 59 ls st τ := by
  intro ls st τ hz
  obtain ⟨ez, h0⟩ := hz
  obtain ⟨z0, l0, e0, h1⟩ := kZ_sp h0
  obtain ⟨z1, l1, e1, h2⟩ := kZ_sp h1
  obtain ⟨z2, l2, e2, h3⟩ := kZ_sp h2
  obtain ⟨z3, l3, e3, h4⟩ := kZ_sp h3
  obtain ⟨x4, l4, e4, h5⟩ := kI_sp h4
  obtain ⟨x5, l5, e5, h6⟩ := kI_sp h5
  obtain ⟨ey, hy⟩ := kE_sp h6
  subst ez
  subst ey
  subst e5
  subst e4
  subst e3
  subst e2
  subst e1
  subst e0
  exact H x4 x5 τ hy z0 z1 z2 z3
def kp_7004_21 (Q : Nat → Nat → Nat → Int32 → Int32 → Int32 → px_M → Prop) : px_P := fun ls st τ => st = [] ∧ kN ls (fun x0 ls => kN ls (fun x1 ls => kN ls (fun x2 ls => kI ls (fun x3 ls => kI ls (fun x4 ls => kI ls (fun x5 ls => kE ls (Q x0 x1 x2 x3 x4 x5 τ)))))))
theorem kq_7004_21 {C : px_C} {k : Option px_V → px_M → Prop} {Q : Nat → Nat → Nat → Int32 → Int32 → Int32 → px_M → Prop} (H : ∀ (x0 : Nat) (x1 : Nat) (x2 : Nat) (x3 : Int32) (x4 : Int32) (x5 : Int32) (τ : px_M), Q x0 x1 x2 x3 x4 x5 τ → px_W C k 21 [some (.inr (.inr (some x0))), some (.inr (.inr (some x1))), some (.inr (.inr (some x2))), some (.inl x3), some (.inl x4), some (.inl x5)] [] τ) : ∀ ls st τ, kp_7004_21 Q ls st τ → px_W C k 21 ls st τ := by
  intro ls st τ hz
  obtain ⟨ez, h0⟩ := hz
  obtain ⟨x0, l0, e0, h1⟩ := kN_sp h0
  obtain ⟨x1, l1, e1, h2⟩ := kN_sp h1
  obtain ⟨x2, l2, e2, h3⟩ := kN_sp h2
  obtain ⟨x3, l3, e3, h4⟩ := kI_sp h3
  obtain ⟨x4, l4, e4, h5⟩ := kI_sp h4
  obtain ⟨x5, l5, e5, h6⟩ := kI_sp h5
  obtain ⟨ey, hy⟩ := kE_sp h6
  subst ez
  subst ey
  subst e5
  subst e4
  subst e3
  subst e2
  subst e1
  subst e0
  exact H x0 x1 x2 x3 x4 x5 τ hy
def kp_7004_3 (Q : Nat → Nat → Nat → Int32 → Int32 → px_M → Prop) : px_P := fun ls st τ => st = [] ∧ kN ls (fun x0 ls => kN ls (fun x1 ls => kN ls (fun x2 ls => kI ls (fun x3 ls => kI ls (fun x4 ls => kZ ls (fun ls => kE ls (Q x0 x1 x2 x3 x4 τ)))))))
theorem kq_7004_3 {C : px_C} {k : Option px_V → px_M → Prop} {Q : Nat → Nat → Nat → Int32 → Int32 → px_M → Prop} (H : ∀ (x0 : Nat) (x1 : Nat) (x2 : Nat) (x3 : Int32) (x4 : Int32) (τ : px_M), Q x0 x1 x2 x3 x4 τ → ∀ (z5 : Option px_V), px_W C k 3 [some (.inr (.inr (some x0))), some (.inr (.inr (some x1))), some (.inr (.inr (some x2))), some (.inl x3), some (.inl x4), z5] [] τ) : ∀ ls st τ, kp_7004_3 Q ls st τ → px_W C k 3 ls st τ := by
  intro ls st τ hz
  obtain ⟨ez, h0⟩ := hz
  obtain ⟨x0, l0, e0, h1⟩ := kN_sp h0
  obtain ⟨x1, l1, e1, h2⟩ := kN_sp h1
  obtain ⟨x2, l2, e2, h3⟩ := kN_sp h2
  obtain ⟨x3, l3, e3, h4⟩ := kI_sp h3
  obtain ⟨x4, l4, e4, h5⟩ := kI_sp h4
  obtain ⟨z5, l5, e5, h6⟩ := kZ_sp h5
  obtain ⟨ey, hy⟩ := kE_sp h6
  subst ez
  subst ey
  subst e5
  subst e4
  subst e3
  subst e2
  subst e1
  subst e0
  exact H x0 x1 x2 x3 x4 τ hy z5
set_option maxHeartbeats 4000000 in
set_option maxRecDepth 100000 in
theorem rl_7004_168 {C : px_C} (hn : px_nd (px_tb C)) {h : Nat} (hh : 31 ≤ h) (hC : px_ok C pn_i7004 h) {k : Option px_V → px_M → Prop} {x0 : Nat} {x2 : Nat} {x3 : Int32} {x4 : Int32} {x5 : Int32} {σ : px_M} (hs : oW (f_7004_168 (px_tb C) σ x0 x2 x3 x4 x5) (Sum.elim (fun s : Int32 × px_M => ∀ (z1 : Option px_V), px_W C k 110 [some (.inr (.inr (some x0))), z1, some (.inr (.inr (some x2))), some (.inl x3), some (.inl x4), some (.inl s.1)] [] s.2) (Sum.elim (fun s : Int32 × px_M => ∀ (z1 : Option px_V) (z5 : Option px_V), px_W C k 92 [some (.inr (.inr (some x0))), z1, some (.inr (.inr (some x2))), some (.inl x3), some (.inl s.1), z5] [] s.2) (fun q => k (some (.inl q.1)) q.2)))) : ∀ (z1 : Option px_V), px_W C k 168 [some (.inr (.inr (some x0))), z1, some (.inr (.inr (some x2))), some (.inl x3), some (.inl x4), some (.inl x5)] [] σ := by
  intro z1
  refine px_runH (h - 1) ck_7004 [] [(110, kp_7004_110 (fun y0 y2 y3 y4 y5 τ => y0 = x0 ∧ y2 = x2 ∧ y3 = x3 ∧ y4 = x4 ∧ (fun s : Int32 × px_M => ∀ (z1 : Option px_V), px_W C k 110 [some (.inr (.inr (some x0))), z1, some (.inr (.inr (some x2))), some (.inl x3), some (.inl x4), some (.inl s.1)] [] s.2) (y5, τ)))] 80 6 (some .int) rfl rfl hC px_nosp (by omega) (px_cut1 (kq_7004_110 (fun y0 y2 y3 y4 y5 τ hq => by obtain ⟨rfl, rfl, rfl, rfl, hq⟩ := hq; exact hq)) px_nocut) (fun G Jf hG hJf => ?_)
  unfold f_7004_168 at hs
  simp (implicitDefEqProofs := false) only [↓hG, ↓hJf, ↓px_vc, ↓px_ex, ↓px_jp, ↓rq_gi_0, ↓rq_gi_S, ↓rq_gl_0, ↓rq_gl_S, ↓rq_gr_0, ↓rq_gr_S, ↓rq_s1_0, ↓rq_s1_1, ↓rq_s1_S, ↓rq_s2_0, ↓rq_s2_1, ↓rq_s2_S, ↓rq_nl_n, ↓rq_nl_i, ↓rq_nl_l, ↓rq_nl_r, ↓rq_i1_s, ↓rq_l1_s, ↓r1_s, ↓rq_q1_s, ↓rq_i2_s, ↓rq_l2_s, ↓rq_il_s, ↓rq_d0_s, ↓rq_d1_i, ↓rq_d1_r, ↓rq_d2_l, ↓rq_d2_ii, ↓rq_d2_ir, ↓px_pop, ↓px_sp, ↓px_rd, ↓px_rf, ↓pn_xf, ↓rq_pt_0, ↓rq_pt_1, ↓rq_pt_2, ↓rq_pt_3, ↓px_sw, ↓pn_SW, ↓px_ma, ↓reduceIte, Nat.reduceEqDiff, Nat.reduceAdd, Nat.reduceSub, ↓Option.toList_some, ↓Option.toList_none, ↓List.cons_append, ↓List.nil_append, ↓kI_s, ↓kJ_s, ↓kN_s, ↓kO_s, ↓kZ_s, ↓kE_s, ↓an_rfl, ↓bt1 n00, ↓bt2 n00, ↓bf1 n10, ↓bf2 n10, ↓an_sz0, ↓an_sz1, ↓an_sz2, ↓an_sz3, ↓an_sz4, ↓an_ri, ↓an_rb0, ↓an_rb1, ↓an_b0, ↓an_b1, true_and, ↓ai_0s, ↓al_0s, ↓av_0s, ↓aq_0s, ↓ai_1s, ↓al_1s, ↓av_1s, ↓aq_1s, ↓ai_2s, ↓al_2s, ↓av_2s, ↓aq_2s, ↓ai_3s, ↓al_3s, ↓av_3s, ↓aq_3s, ↓ai_4s, ↓al_4s, ↓av_4s, ↓aq_4s, ↓ai_5s, ↓al_5s, ↓av_5s, ↓aq_5s, ↓ai_6s, ↓al_6s, ↓av_6s, ↓aq_6s, ↓ai_7s, ↓al_7s, ↓av_7s, ↓aq_7s, ↓an_l6, ↓bk_7004, ↓kp_7004_110]
  rw [oW_some] at hs
  exact hs
set_option maxHeartbeats 4000000 in
set_option maxRecDepth 100000 in
theorem rl_7004_148 {C : px_C} (hn : px_nd (px_tb C)) {h : Nat} (hh : 31 ≤ h) (hC : px_ok C pn_i7004 h) {k : Option px_V → px_M → Prop} {x0 : Nat} {x2 : Nat} {x3 : Int32} {x4 : Int32} {x5 : Int32} {σ : px_M} (hs : oW (f_7004_148 (px_tb C) σ x0 x2 x3 x4 x5) (Sum.elim (fun s : Int32 × px_M => ∀ (z1 : Option px_V), px_W C k 110 [some (.inr (.inr (some x0))), z1, some (.inr (.inr (some x2))), some (.inl x3), some (.inl x4), some (.inl s.1)] [] s.2) (Sum.elim (fun s : Int32 × px_M => ∀ (z1 : Option px_V) (z5 : Option px_V), px_W C k 92 [some (.inr (.inr (some x0))), z1, some (.inr (.inr (some x2))), some (.inl x3), some (.inl s.1), z5] [] s.2) (fun q => k (some (.inl q.1)) q.2)))) : ∀ (z1 : Option px_V), px_W C k 148 [some (.inr (.inr (some x0))), z1, some (.inr (.inr (some x2))), some (.inl x3), some (.inl x4), some (.inl x5)] [] σ := by
  intro z1
  refine px_runH (h - 1) ck_7004 [(2005, Sg_2005 (f_2005 (px_tb C)))] [(168, kp_7004_168 (fun y0 y2 y3 y4 y5 τ => y0 = x0 ∧ y2 = x2 ∧ y3 = x3 ∧ y4 = x4 ∧ oW (f_7004_168 (px_tb C) τ y0 y2 y3 y4 y5) (Sum.elim (fun s : Int32 × px_M => ∀ (z1 : Option px_V), px_W C k 110 [some (.inr (.inr (some x0))), z1, some (.inr (.inr (some x2))), some (.inl x3), some (.inl x4), some (.inl s.1)] [] s.2) (Sum.elim (fun s : Int32 × px_M => ∀ (z1 : Option px_V) (z5 : Option px_V), px_W C k 92 [some (.inr (.inr (some x0))), z1, some (.inr (.inr (some x2))), some (.inl x3), some (.inl s.1), z5] [] s.2) (fun q => k (some (.inl q.1)) q.2)))))] 80 6 (some .int) rfl rfl hC (px_sp1 (mf_2005 hn (by omega)) px_nosp) (by omega) (px_cut1 (kq_7004_168 (fun y0 y2 y3 y4 y5 τ hq => by obtain ⟨rfl, rfl, rfl, rfl, hq⟩ := hq; exact rl_7004_168 hn (by omega) hC  hq)) px_nocut) (fun G Jf hG hJf => ?_)
  unfold f_7004_148 at hs
  obtain ⟨hc0, hs⟩ := oW_gx hs
  obtain ⟨q1, hc1, hs⟩ := oW_bx hs
  by_cases hc2 : q1.1 = nI 0
  · replace hs := bW_t hs hc2
    simp (implicitDefEqProofs := false) only [↓hG, ↓hJf, ↓px_vc, ↓px_ex, ↓px_jp, ↓rq_gi_0, ↓rq_gi_S, ↓rq_gl_0, ↓rq_gl_S, ↓rq_gr_0, ↓rq_gr_S, ↓rq_s1_0, ↓rq_s1_1, ↓rq_s1_S, ↓rq_s2_0, ↓rq_s2_1, ↓rq_s2_S, ↓rq_nl_n, ↓rq_nl_i, ↓rq_nl_l, ↓rq_nl_r, ↓rq_i1_s, ↓rq_l1_s, ↓r1_s, ↓rq_q1_s, ↓rq_i2_s, ↓rq_l2_s, ↓rq_il_s, ↓rq_d0_s, ↓rq_d1_i, ↓rq_d1_r, ↓rq_d2_l, ↓rq_d2_ii, ↓rq_d2_ir, ↓px_pop, ↓px_sp, ↓px_rd, ↓px_rf, ↓pn_xf, ↓rq_pt_0, ↓rq_pt_1, ↓rq_pt_2, ↓rq_pt_3, ↓px_sw, ↓pn_SW, ↓px_ma, ↓reduceIte, Nat.reduceEqDiff, Nat.reduceAdd, Nat.reduceSub, ↓Option.toList_some, ↓Option.toList_none, ↓List.cons_append, ↓List.nil_append, ↓kI_s, ↓kJ_s, ↓kN_s, ↓kO_s, ↓kZ_s, ↓kE_s, ↓an_rfl, ↓bt1 n00, ↓bt2 n00, ↓bf1 n10, ↓bf2 n10, ↓an_sz0, ↓an_sz1, ↓an_sz2, ↓an_sz3, ↓an_sz4, ↓an_ri, ↓an_rb0, ↓an_rb1, ↓an_b0, ↓an_b1, true_and, ↓ai_0s, ↓al_0s, ↓av_0s, ↓aq_0s, ↓ai_1s, ↓al_1s, ↓av_1s, ↓aq_1s, ↓ai_2s, ↓al_2s, ↓av_2s, ↓aq_2s, ↓ai_3s, ↓al_3s, ↓av_3s, ↓aq_3s, ↓ai_4s, ↓al_4s, ↓av_4s, ↓aq_4s, ↓ai_5s, ↓al_5s, ↓av_5s, ↓aq_5s, ↓ai_6s, ↓al_6s, ↓av_6s, ↓aq_6s, ↓ai_7s, ↓al_7s, ↓av_7s, ↓aq_7s, ↓an_l6, ↓bk_7004, ↓Sg_2005, ↓kp_7004_168, ↓an_t hc0, ↓an_rv hc0, ↓oW_e hc1, ↓bt1 hc2, ↓bt2 hc2]
    rw [oW_some] at hs
    exact hs
  · replace hs := bW_f hs hc2
    simp (implicitDefEqProofs := false) only [↓hG, ↓hJf, ↓px_vc, ↓px_ex, ↓px_jp, ↓rq_gi_0, ↓rq_gi_S, ↓rq_gl_0, ↓rq_gl_S, ↓rq_gr_0, ↓rq_gr_S, ↓rq_s1_0, ↓rq_s1_1, ↓rq_s1_S, ↓rq_s2_0, ↓rq_s2_1, ↓rq_s2_S, ↓rq_nl_n, ↓rq_nl_i, ↓rq_nl_l, ↓rq_nl_r, ↓rq_i1_s, ↓rq_l1_s, ↓r1_s, ↓rq_q1_s, ↓rq_i2_s, ↓rq_l2_s, ↓rq_il_s, ↓rq_d0_s, ↓rq_d1_i, ↓rq_d1_r, ↓rq_d2_l, ↓rq_d2_ii, ↓rq_d2_ir, ↓px_pop, ↓px_sp, ↓px_rd, ↓px_rf, ↓pn_xf, ↓rq_pt_0, ↓rq_pt_1, ↓rq_pt_2, ↓rq_pt_3, ↓px_sw, ↓pn_SW, ↓px_ma, ↓reduceIte, Nat.reduceEqDiff, Nat.reduceAdd, Nat.reduceSub, ↓Option.toList_some, ↓Option.toList_none, ↓List.cons_append, ↓List.nil_append, ↓kI_s, ↓kJ_s, ↓kN_s, ↓kO_s, ↓kZ_s, ↓kE_s, ↓an_rfl, ↓bt1 n00, ↓bt2 n00, ↓bf1 n10, ↓bf2 n10, ↓an_sz0, ↓an_sz1, ↓an_sz2, ↓an_sz3, ↓an_sz4, ↓an_ri, ↓an_rb0, ↓an_rb1, ↓an_b0, ↓an_b1, true_and, ↓ai_0s, ↓al_0s, ↓av_0s, ↓aq_0s, ↓ai_1s, ↓al_1s, ↓av_1s, ↓aq_1s, ↓ai_2s, ↓al_2s, ↓av_2s, ↓aq_2s, ↓ai_3s, ↓al_3s, ↓av_3s, ↓aq_3s, ↓ai_4s, ↓al_4s, ↓av_4s, ↓aq_4s, ↓ai_5s, ↓al_5s, ↓av_5s, ↓aq_5s, ↓ai_6s, ↓al_6s, ↓av_6s, ↓aq_6s, ↓ai_7s, ↓al_7s, ↓av_7s, ↓aq_7s, ↓an_l6, ↓bk_7004, ↓Sg_2005, ↓kp_7004_168, ↓an_t hc0, ↓an_rv hc0, ↓oW_e hc1, ↓bf1 hc2, ↓bf2 hc2]
    exact hs
set_option maxHeartbeats 4000000 in
set_option maxRecDepth 100000 in
theorem rl_7004_110 {C : px_C} (hn : px_nd (px_tb C)) {h : Nat} (hh : 31 ≤ h) (hC : px_ok C pn_i7004 h) {k : Option px_V → px_M → Prop} {x0 : Nat} {x2 : Nat} {x3 : Int32} {x4 : Int32} : ∀ s : Int32 × px_M, oW (f_7004_110 (px_tb C) x0 x2 x3 x4 s.1 s.2) (Sum.elim (fun s : Int32 × px_M => ∀ (z1 : Option px_V) (z5 : Option px_V), px_W C k 92 [some (.inr (.inr (some x0))), z1, some (.inr (.inr (some x2))), some (.inl x3), some (.inl s.1), z5] [] s.2) (fun q => k (some (.inl q.1)) q.2)) → (fun s : Int32 × px_M => ∀ (z1 : Option px_V), px_W C k 110 [some (.inr (.inr (some x0))), z1, some (.inr (.inr (some x2))), some (.inl x3), some (.inl x4), some (.inl s.1)] [] s.2) s := by
  intro s h0
  refine lpO_sound (P := (fun s : Int32 × px_M => ∀ (z1 : Option px_V), px_W C k 110 [some (.inr (.inr (some x0))), z1, some (.inr (.inr (some x2))), some (.inl x3), some (.inl x4), some (.inl s.1)] [] s.2)) (fun s hs => ?_) h0
  obtain ⟨x5, σ⟩ := s
  intro z1
  refine px_runH (h - 1) ck_7004 [(7007, Sg_7007 (f_7007 (px_tb C))), (11006, Sg_11006 (f_11006 (px_tb C)))] [(92, kp_7004_92 (fun y0 y2 y3 y4 τ => y0 = x0 ∧ y2 = x2 ∧ y3 = x3 ∧ (fun s : Int32 × px_M => ∀ (z1 : Option px_V) (z5 : Option px_V), px_W C k 92 [some (.inr (.inr (some x0))), z1, some (.inr (.inr (some x2))), some (.inl x3), some (.inl s.1), z5] [] s.2) (y4, τ))), (148, kp_7004_148 (fun y0 y2 y3 y4 y5 τ => y0 = x0 ∧ y2 = x2 ∧ y3 = x3 ∧ y4 = x4 ∧ oW (f_7004_148 (px_tb C) τ y0 y2 y3 y4 y5) (Sum.elim (fun s : Int32 × px_M => ∀ (z1 : Option px_V), px_W C k 110 [some (.inr (.inr (some x0))), z1, some (.inr (.inr (some x2))), some (.inl x3), some (.inl x4), some (.inl s.1)] [] s.2) (Sum.elim (fun s : Int32 × px_M => ∀ (z1 : Option px_V) (z5 : Option px_V), px_W C k 92 [some (.inr (.inr (some x0))), z1, some (.inr (.inr (some x2))), some (.inl x3), some (.inl s.1), z5] [] s.2) (fun q => k (some (.inl q.1)) q.2))))), (168, kp_7004_168 (fun y0 y2 y3 y4 y5 τ => y0 = x0 ∧ y2 = x2 ∧ y3 = x3 ∧ y4 = x4 ∧ oW (f_7004_168 (px_tb C) τ y0 y2 y3 y4 y5) (Sum.elim (fun s : Int32 × px_M => ∀ (z1 : Option px_V), px_W C k 110 [some (.inr (.inr (some x0))), z1, some (.inr (.inr (some x2))), some (.inl x3), some (.inl x4), some (.inl s.1)] [] s.2) (Sum.elim (fun s : Int32 × px_M => ∀ (z1 : Option px_V) (z5 : Option px_V), px_W C k 92 [some (.inr (.inr (some x0))), z1, some (.inr (.inr (some x2))), some (.inl x3), some (.inl s.1), z5] [] s.2) (fun q => k (some (.inl q.1)) q.2)))))] 80 6 (some .int) rfl rfl hC (px_sp1 (mf_7007 hn (by omega)) (px_sp1 (mf_11006 hn (by omega)) px_nosp)) (by omega) (px_cut1 (kq_7004_92 (fun y0 y2 y3 y4 τ hq => by obtain ⟨rfl, rfl, rfl, hq⟩ := hq; exact hq)) (px_cut1 (kq_7004_148 (fun y0 y2 y3 y4 y5 τ hq => by obtain ⟨rfl, rfl, rfl, rfl, hq⟩ := hq; exact rl_7004_148 hn (by omega) hC  hq)) (px_cut1 (kq_7004_168 (fun y0 y2 y3 y4 y5 τ hq => by obtain ⟨rfl, rfl, rfl, rfl, hq⟩ := hq; exact rl_7004_168 hn (by omega) hC  hq)) px_nocut))) (fun G Jf hG hJf => ?_)
  replace hs : oW (F_7004_110 (px_tb C) x0 x2 x3 x4 x5 σ) _ := hs
  unfold F_7004_110 at hs
  obtain ⟨hc0, hs⟩ := oW_gx hs
  obtain ⟨n1, hc1, hs⟩ := oW_bx hs
  obtain ⟨hc2, hs⟩ := oW_gx hs
  by_cases hc3 : ((σ).1 n1 0) ≤ x5
  · replace hs := oW_t hs hc3
    simp (implicitDefEqProofs := false) only [↓hG, ↓hJf, ↓px_vc, ↓px_ex, ↓px_jp, ↓rq_gi_0, ↓rq_gi_S, ↓rq_gl_0, ↓rq_gl_S, ↓rq_gr_0, ↓rq_gr_S, ↓rq_s1_0, ↓rq_s1_1, ↓rq_s1_S, ↓rq_s2_0, ↓rq_s2_1, ↓rq_s2_S, ↓rq_nl_n, ↓rq_nl_i, ↓rq_nl_l, ↓rq_nl_r, ↓rq_i1_s, ↓rq_l1_s, ↓r1_s, ↓rq_q1_s, ↓rq_i2_s, ↓rq_l2_s, ↓rq_il_s, ↓rq_d0_s, ↓rq_d1_i, ↓rq_d1_r, ↓rq_d2_l, ↓rq_d2_ii, ↓rq_d2_ir, ↓px_pop, ↓px_sp, ↓px_rd, ↓px_rf, ↓pn_xf, ↓rq_pt_0, ↓rq_pt_1, ↓rq_pt_2, ↓rq_pt_3, ↓px_sw, ↓pn_SW, ↓px_ma, ↓reduceIte, Nat.reduceEqDiff, Nat.reduceAdd, Nat.reduceSub, ↓Option.toList_some, ↓Option.toList_none, ↓List.cons_append, ↓List.nil_append, ↓kI_s, ↓kJ_s, ↓kN_s, ↓kO_s, ↓kZ_s, ↓kE_s, ↓an_rfl, ↓bt1 n00, ↓bt2 n00, ↓bf1 n10, ↓bf2 n10, ↓an_sz0, ↓an_sz1, ↓an_sz2, ↓an_sz3, ↓an_sz4, ↓an_ri, ↓an_rb0, ↓an_rb1, ↓an_b0, ↓an_b1, true_and, ↓ai_0s, ↓al_0s, ↓av_0s, ↓aq_0s, ↓ai_1s, ↓al_1s, ↓av_1s, ↓aq_1s, ↓ai_2s, ↓al_2s, ↓av_2s, ↓aq_2s, ↓ai_3s, ↓al_3s, ↓av_3s, ↓aq_3s, ↓ai_4s, ↓al_4s, ↓av_4s, ↓aq_4s, ↓ai_5s, ↓al_5s, ↓av_5s, ↓aq_5s, ↓ai_6s, ↓al_6s, ↓av_6s, ↓aq_6s, ↓ai_7s, ↓al_7s, ↓av_7s, ↓aq_7s, ↓an_l6, ↓bk_7004, ↓Sg_7007, ↓Sg_11006, ↓kp_7004_92, ↓kp_7004_148, ↓kp_7004_168, ↓an_t hc0, ↓an_rv hc0, ↓r1_e hc1, ↓av_0e hc1, ↓av_1e hc1, ↓av_2e hc1, ↓av_3e hc1, ↓an_t hc2, ↓an_rv hc2, ↓an_rvo hc1 hc2, ↓bt1 hc3, ↓bt2 hc3]
    rw [oW_some] at hs
    exact hs
  · replace hs := oW_f hs hc3
    obtain ⟨r2, hc4, hs⟩ := oW_bx hs
    by_cases hc5 : r2 = nI 0
    · replace hs := bW_t hs hc5
      obtain ⟨q3, hc6, hs⟩ := oW_bx hs
      by_cases hc7 : q3.1 < x3
      · replace hs := oW_t hs hc7
        simp (implicitDefEqProofs := false) only [↓hG, ↓hJf, ↓px_vc, ↓px_ex, ↓px_jp, ↓rq_gi_0, ↓rq_gi_S, ↓rq_gl_0, ↓rq_gl_S, ↓rq_gr_0, ↓rq_gr_S, ↓rq_s1_0, ↓rq_s1_1, ↓rq_s1_S, ↓rq_s2_0, ↓rq_s2_1, ↓rq_s2_S, ↓rq_nl_n, ↓rq_nl_i, ↓rq_nl_l, ↓rq_nl_r, ↓rq_i1_s, ↓rq_l1_s, ↓r1_s, ↓rq_q1_s, ↓rq_i2_s, ↓rq_l2_s, ↓rq_il_s, ↓rq_d0_s, ↓rq_d1_i, ↓rq_d1_r, ↓rq_d2_l, ↓rq_d2_ii, ↓rq_d2_ir, ↓px_pop, ↓px_sp, ↓px_rd, ↓px_rf, ↓pn_xf, ↓rq_pt_0, ↓rq_pt_1, ↓rq_pt_2, ↓rq_pt_3, ↓px_sw, ↓pn_SW, ↓px_ma, ↓reduceIte, Nat.reduceEqDiff, Nat.reduceAdd, Nat.reduceSub, ↓Option.toList_some, ↓Option.toList_none, ↓List.cons_append, ↓List.nil_append, ↓kI_s, ↓kJ_s, ↓kN_s, ↓kO_s, ↓kZ_s, ↓kE_s, ↓an_rfl, ↓bt1 n00, ↓bt2 n00, ↓bf1 n10, ↓bf2 n10, ↓an_sz0, ↓an_sz1, ↓an_sz2, ↓an_sz3, ↓an_sz4, ↓an_ri, ↓an_rb0, ↓an_rb1, ↓an_b0, ↓an_b1, true_and, ↓ai_0s, ↓al_0s, ↓av_0s, ↓aq_0s, ↓ai_1s, ↓al_1s, ↓av_1s, ↓aq_1s, ↓ai_2s, ↓al_2s, ↓av_2s, ↓aq_2s, ↓ai_3s, ↓al_3s, ↓av_3s, ↓aq_3s, ↓ai_4s, ↓al_4s, ↓av_4s, ↓aq_4s, ↓ai_5s, ↓al_5s, ↓av_5s, ↓aq_5s, ↓ai_6s, ↓al_6s, ↓av_6s, ↓aq_6s, ↓ai_7s, ↓al_7s, ↓av_7s, ↓aq_7s, ↓an_l6, ↓bk_7004, ↓Sg_7007, ↓Sg_11006, ↓kp_7004_92, ↓kp_7004_148, ↓kp_7004_168, ↓an_t hc0, ↓an_rv hc0, ↓r1_e hc1, ↓av_0e hc1, ↓av_1e hc1, ↓av_2e hc1, ↓av_3e hc1, ↓an_t hc2, ↓an_rv hc2, ↓an_rvo hc1 hc2, ↓bf1 hc3, ↓bf2 hc3, ↓oW_e hc4, ↓bt1 hc5, ↓bt2 hc5, ↓oW_e hc6, ↓bt1 hc7, ↓bt2 hc7]
        exact hs
      · replace hs := oW_f hs hc7
        simp (implicitDefEqProofs := false) only [↓hG, ↓hJf, ↓px_vc, ↓px_ex, ↓px_jp, ↓rq_gi_0, ↓rq_gi_S, ↓rq_gl_0, ↓rq_gl_S, ↓rq_gr_0, ↓rq_gr_S, ↓rq_s1_0, ↓rq_s1_1, ↓rq_s1_S, ↓rq_s2_0, ↓rq_s2_1, ↓rq_s2_S, ↓rq_nl_n, ↓rq_nl_i, ↓rq_nl_l, ↓rq_nl_r, ↓rq_i1_s, ↓rq_l1_s, ↓r1_s, ↓rq_q1_s, ↓rq_i2_s, ↓rq_l2_s, ↓rq_il_s, ↓rq_d0_s, ↓rq_d1_i, ↓rq_d1_r, ↓rq_d2_l, ↓rq_d2_ii, ↓rq_d2_ir, ↓px_pop, ↓px_sp, ↓px_rd, ↓px_rf, ↓pn_xf, ↓rq_pt_0, ↓rq_pt_1, ↓rq_pt_2, ↓rq_pt_3, ↓px_sw, ↓pn_SW, ↓px_ma, ↓reduceIte, Nat.reduceEqDiff, Nat.reduceAdd, Nat.reduceSub, ↓Option.toList_some, ↓Option.toList_none, ↓List.cons_append, ↓List.nil_append, ↓kI_s, ↓kJ_s, ↓kN_s, ↓kO_s, ↓kZ_s, ↓kE_s, ↓an_rfl, ↓bt1 n00, ↓bt2 n00, ↓bf1 n10, ↓bf2 n10, ↓an_sz0, ↓an_sz1, ↓an_sz2, ↓an_sz3, ↓an_sz4, ↓an_ri, ↓an_rb0, ↓an_rb1, ↓an_b0, ↓an_b1, true_and, ↓ai_0s, ↓al_0s, ↓av_0s, ↓aq_0s, ↓ai_1s, ↓al_1s, ↓av_1s, ↓aq_1s, ↓ai_2s, ↓al_2s, ↓av_2s, ↓aq_2s, ↓ai_3s, ↓al_3s, ↓av_3s, ↓aq_3s, ↓ai_4s, ↓al_4s, ↓av_4s, ↓aq_4s, ↓ai_5s, ↓al_5s, ↓av_5s, ↓aq_5s, ↓ai_6s, ↓al_6s, ↓av_6s, ↓aq_6s, ↓ai_7s, ↓al_7s, ↓av_7s, ↓aq_7s, ↓an_l6, ↓bk_7004, ↓Sg_7007, ↓Sg_11006, ↓kp_7004_92, ↓kp_7004_148, ↓kp_7004_168, ↓an_t hc0, ↓an_rv hc0, ↓r1_e hc1, ↓av_0e hc1, ↓av_1e hc1, ↓av_2e hc1, ↓av_3e hc1, ↓an_t hc2, ↓an_rv hc2, ↓an_rvo hc1 hc2, ↓bf1 hc3, ↓bf2 hc3, ↓oW_e hc4, ↓bt1 hc5, ↓bt2 hc5, ↓oW_e hc6, ↓bf1 hc7, ↓bf2 hc7]
        exact hs
    · replace hs := bW_f hs hc5
      simp (implicitDefEqProofs := false) only [↓hG, ↓hJf, ↓px_vc, ↓px_ex, ↓px_jp, ↓rq_gi_0, ↓rq_gi_S, ↓rq_gl_0, ↓rq_gl_S, ↓rq_gr_0, ↓rq_gr_S, ↓rq_s1_0, ↓rq_s1_1, ↓rq_s1_S, ↓rq_s2_0, ↓rq_s2_1, ↓rq_s2_S, ↓rq_nl_n, ↓rq_nl_i, ↓rq_nl_l, ↓rq_nl_r, ↓rq_i1_s, ↓rq_l1_s, ↓r1_s, ↓rq_q1_s, ↓rq_i2_s, ↓rq_l2_s, ↓rq_il_s, ↓rq_d0_s, ↓rq_d1_i, ↓rq_d1_r, ↓rq_d2_l, ↓rq_d2_ii, ↓rq_d2_ir, ↓px_pop, ↓px_sp, ↓px_rd, ↓px_rf, ↓pn_xf, ↓rq_pt_0, ↓rq_pt_1, ↓rq_pt_2, ↓rq_pt_3, ↓px_sw, ↓pn_SW, ↓px_ma, ↓reduceIte, Nat.reduceEqDiff, Nat.reduceAdd, Nat.reduceSub, ↓Option.toList_some, ↓Option.toList_none, ↓List.cons_append, ↓List.nil_append, ↓kI_s, ↓kJ_s, ↓kN_s, ↓kO_s, ↓kZ_s, ↓kE_s, ↓an_rfl, ↓bt1 n00, ↓bt2 n00, ↓bf1 n10, ↓bf2 n10, ↓an_sz0, ↓an_sz1, ↓an_sz2, ↓an_sz3, ↓an_sz4, ↓an_ri, ↓an_rb0, ↓an_rb1, ↓an_b0, ↓an_b1, true_and, ↓ai_0s, ↓al_0s, ↓av_0s, ↓aq_0s, ↓ai_1s, ↓al_1s, ↓av_1s, ↓aq_1s, ↓ai_2s, ↓al_2s, ↓av_2s, ↓aq_2s, ↓ai_3s, ↓al_3s, ↓av_3s, ↓aq_3s, ↓ai_4s, ↓al_4s, ↓av_4s, ↓aq_4s, ↓ai_5s, ↓al_5s, ↓av_5s, ↓aq_5s, ↓ai_6s, ↓al_6s, ↓av_6s, ↓aq_6s, ↓ai_7s, ↓al_7s, ↓av_7s, ↓aq_7s, ↓an_l6, ↓bk_7004, ↓Sg_7007, ↓Sg_11006, ↓kp_7004_92, ↓kp_7004_148, ↓kp_7004_168, ↓an_t hc0, ↓an_rv hc0, ↓r1_e hc1, ↓av_0e hc1, ↓av_1e hc1, ↓av_2e hc1, ↓av_3e hc1, ↓an_t hc2, ↓an_rv hc2, ↓an_rvo hc1 hc2, ↓bf1 hc3, ↓bf2 hc3, ↓oW_e hc4, ↓bf1 hc5, ↓bf2 hc5]
      exact hs
set_option maxHeartbeats 4000000 in
set_option maxRecDepth 100000 in
theorem rl_7004_92 {C : px_C} (hn : px_nd (px_tb C)) {h : Nat} (hh : 31 ≤ h) (hC : px_ok C pn_i7004 h) {k : Option px_V → px_M → Prop} {x0 : Nat} {x2 : Nat} {x3 : Int32} : ∀ s : Int32 × px_M, oW (f_7004_92 (px_tb C) x0 x2 x3 s.1 s.2) (fun q => k (some (.inl q.1)) q.2) → (fun s : Int32 × px_M => ∀ (z1 : Option px_V) (z5 : Option px_V), px_W C k 92 [some (.inr (.inr (some x0))), z1, some (.inr (.inr (some x2))), some (.inl x3), some (.inl s.1), z5] [] s.2) s := by
  intro s h0
  refine lpO_sound (P := (fun s : Int32 × px_M => ∀ (z1 : Option px_V) (z5 : Option px_V), px_W C k 92 [some (.inr (.inr (some x0))), z1, some (.inr (.inr (some x2))), some (.inl x3), some (.inl s.1), z5] [] s.2)) (fun s hs => ?_) h0
  obtain ⟨x4, σ⟩ := s
  intro z1 z5
  refine px_runH (h - 1) ck_7004 [] [(110, kp_7004_110 (fun y0 y2 y3 y4 y5 τ => y0 = x0 ∧ y2 = x2 ∧ y3 = x3 ∧ oW (f_7004_110 (px_tb C) y0 y2 y3 y4 y5 τ) (Sum.elim (fun s : Int32 × px_M => ∀ (z1 : Option px_V) (z5 : Option px_V), px_W C k 92 [some (.inr (.inr (some x0))), z1, some (.inr (.inr (some x2))), some (.inl x3), some (.inl s.1), z5] [] s.2) (fun q => k (some (.inl q.1)) q.2))))] 80 6 (some .int) rfl rfl hC px_nosp (by omega) (px_cut1 (kq_7004_110 (fun y0 y2 y3 y4 y5 τ hq => by obtain ⟨rfl, rfl, rfl, hq⟩ := hq; exact rl_7004_110 hn (by omega) hC (y5, τ) hq)) px_nocut) (fun G Jf hG hJf => ?_)
  replace hs : oW (F_7004_92 (px_tb C) x0 x2 x3 x4 σ) _ := hs
  unfold F_7004_92 at hs
  obtain ⟨hc0, hs⟩ := oW_gx hs
  obtain ⟨n1, hc1, hs⟩ := oW_bx hs
  obtain ⟨hc2, hs⟩ := oW_gx hs
  by_cases hc3 : ((σ).1 n1 0) ≤ x4
  · replace hs := oW_t hs hc3
    simp (implicitDefEqProofs := false) only [↓hG, ↓hJf, ↓px_vc, ↓px_ex, ↓px_jp, ↓rq_gi_0, ↓rq_gi_S, ↓rq_gl_0, ↓rq_gl_S, ↓rq_gr_0, ↓rq_gr_S, ↓rq_s1_0, ↓rq_s1_1, ↓rq_s1_S, ↓rq_s2_0, ↓rq_s2_1, ↓rq_s2_S, ↓rq_nl_n, ↓rq_nl_i, ↓rq_nl_l, ↓rq_nl_r, ↓rq_i1_s, ↓rq_l1_s, ↓r1_s, ↓rq_q1_s, ↓rq_i2_s, ↓rq_l2_s, ↓rq_il_s, ↓rq_d0_s, ↓rq_d1_i, ↓rq_d1_r, ↓rq_d2_l, ↓rq_d2_ii, ↓rq_d2_ir, ↓px_pop, ↓px_sp, ↓px_rd, ↓px_rf, ↓pn_xf, ↓rq_pt_0, ↓rq_pt_1, ↓rq_pt_2, ↓rq_pt_3, ↓px_sw, ↓pn_SW, ↓px_ma, ↓reduceIte, Nat.reduceEqDiff, Nat.reduceAdd, Nat.reduceSub, ↓Option.toList_some, ↓Option.toList_none, ↓List.cons_append, ↓List.nil_append, ↓kI_s, ↓kJ_s, ↓kN_s, ↓kO_s, ↓kZ_s, ↓kE_s, ↓an_rfl, ↓bt1 n00, ↓bt2 n00, ↓bf1 n10, ↓bf2 n10, ↓an_sz0, ↓an_sz1, ↓an_sz2, ↓an_sz3, ↓an_sz4, ↓an_ri, ↓an_rb0, ↓an_rb1, ↓an_b0, ↓an_b1, true_and, ↓ai_0s, ↓al_0s, ↓av_0s, ↓aq_0s, ↓ai_1s, ↓al_1s, ↓av_1s, ↓aq_1s, ↓ai_2s, ↓al_2s, ↓av_2s, ↓aq_2s, ↓ai_3s, ↓al_3s, ↓av_3s, ↓aq_3s, ↓ai_4s, ↓al_4s, ↓av_4s, ↓aq_4s, ↓ai_5s, ↓al_5s, ↓av_5s, ↓aq_5s, ↓ai_6s, ↓al_6s, ↓av_6s, ↓aq_6s, ↓ai_7s, ↓al_7s, ↓av_7s, ↓aq_7s, ↓an_l6, ↓bk_7004, ↓kp_7004_110, ↓an_t hc0, ↓an_rv hc0, ↓r1_e hc1, ↓av_0e hc1, ↓av_1e hc1, ↓av_2e hc1, ↓av_3e hc1, ↓an_t hc2, ↓an_rv hc2, ↓an_rvo hc1 hc2, ↓bt1 hc3, ↓bt2 hc3]
    rw [oW_some] at hs
    exact hs
  · replace hs := oW_f hs hc3
    simp (implicitDefEqProofs := false) only [↓hG, ↓hJf, ↓px_vc, ↓px_ex, ↓px_jp, ↓rq_gi_0, ↓rq_gi_S, ↓rq_gl_0, ↓rq_gl_S, ↓rq_gr_0, ↓rq_gr_S, ↓rq_s1_0, ↓rq_s1_1, ↓rq_s1_S, ↓rq_s2_0, ↓rq_s2_1, ↓rq_s2_S, ↓rq_nl_n, ↓rq_nl_i, ↓rq_nl_l, ↓rq_nl_r, ↓rq_i1_s, ↓rq_l1_s, ↓r1_s, ↓rq_q1_s, ↓rq_i2_s, ↓rq_l2_s, ↓rq_il_s, ↓rq_d0_s, ↓rq_d1_i, ↓rq_d1_r, ↓rq_d2_l, ↓rq_d2_ii, ↓rq_d2_ir, ↓px_pop, ↓px_sp, ↓px_rd, ↓px_rf, ↓pn_xf, ↓rq_pt_0, ↓rq_pt_1, ↓rq_pt_2, ↓rq_pt_3, ↓px_sw, ↓pn_SW, ↓px_ma, ↓reduceIte, Nat.reduceEqDiff, Nat.reduceAdd, Nat.reduceSub, ↓Option.toList_some, ↓Option.toList_none, ↓List.cons_append, ↓List.nil_append, ↓kI_s, ↓kJ_s, ↓kN_s, ↓kO_s, ↓kZ_s, ↓kE_s, ↓an_rfl, ↓bt1 n00, ↓bt2 n00, ↓bf1 n10, ↓bf2 n10, ↓an_sz0, ↓an_sz1, ↓an_sz2, ↓an_sz3, ↓an_sz4, ↓an_ri, ↓an_rb0, ↓an_rb1, ↓an_b0, ↓an_b1, true_and, ↓ai_0s, ↓al_0s, ↓av_0s, ↓aq_0s, ↓ai_1s, ↓al_1s, ↓av_1s, ↓aq_1s, ↓ai_2s, ↓al_2s, ↓av_2s, ↓aq_2s, ↓ai_3s, ↓al_3s, ↓av_3s, ↓aq_3s, ↓ai_4s, ↓al_4s, ↓av_4s, ↓aq_4s, ↓ai_5s, ↓al_5s, ↓av_5s, ↓aq_5s, ↓ai_6s, ↓al_6s, ↓av_6s, ↓aq_6s, ↓ai_7s, ↓al_7s, ↓av_7s, ↓aq_7s, ↓an_l6, ↓bk_7004, ↓kp_7004_110, ↓an_t hc0, ↓an_rv hc0, ↓r1_e hc1, ↓av_0e hc1, ↓av_1e hc1, ↓av_2e hc1, ↓av_3e hc1, ↓an_t hc2, ↓an_rv hc2, ↓an_rvo hc1 hc2, ↓bf1 hc3, ↓bf2 hc3]
    exact hs
set_option maxHeartbeats 4000000 in
set_option maxRecDepth 100000 in
theorem rl_7004_68 {C : px_C} (hn : px_nd (px_tb C)) {h : Nat} (hh : 31 ≤ h) (hC : px_ok C pn_i7004 h) {k : Option px_V → px_M → Prop} {x0 : Nat} {x1 : Nat} {x2 : Nat} {x3 : Int32} {x4 : Int32} {x5 : Int32} {σ : px_M} (hs : oW (f_7004_68 (px_tb C) σ x0 x1 x2 x3 x4 x5) (Sum.elim (fun s : Int32 × px_M => px_W C k 21 [some (.inr (.inr (some x0))), some (.inr (.inr (some x1))), some (.inr (.inr (some x2))), some (.inl x3), some (.inl x4), some (.inl s.1)] [] s.2) (Sum.elim (fun s : Int32 × px_M => ∀ (z5 : Option px_V), px_W C k 3 [some (.inr (.inr (some x0))), some (.inr (.inr (some x1))), some (.inr (.inr (some x2))), some (.inl x3), some (.inl s.1), z5] [] s.2) (fun q => k (some (.inl q.1)) q.2)))) : px_W C k 68 [some (.inr (.inr (some x0))), some (.inr (.inr (some x1))), some (.inr (.inr (some x2))), some (.inl x3), some (.inl x4), some (.inl x5)] [] σ := by
  refine px_runH (h - 1) ck_7004 [] [(21, kp_7004_21 (fun y0 y1 y2 y3 y4 y5 τ => y0 = x0 ∧ y1 = x1 ∧ y2 = x2 ∧ y3 = x3 ∧ y4 = x4 ∧ (fun s : Int32 × px_M => px_W C k 21 [some (.inr (.inr (some x0))), some (.inr (.inr (some x1))), some (.inr (.inr (some x2))), some (.inl x3), some (.inl x4), some (.inl s.1)] [] s.2) (y5, τ)))] 80 6 (some .int) rfl rfl hC px_nosp (by omega) (px_cut1 (kq_7004_21 (fun y0 y1 y2 y3 y4 y5 τ hq => by obtain ⟨rfl, rfl, rfl, rfl, rfl, hq⟩ := hq; exact hq)) px_nocut) (fun G Jf hG hJf => ?_)
  unfold f_7004_68 at hs
  simp (implicitDefEqProofs := false) only [↓hG, ↓hJf, ↓px_vc, ↓px_ex, ↓px_jp, ↓rq_gi_0, ↓rq_gi_S, ↓rq_gl_0, ↓rq_gl_S, ↓rq_gr_0, ↓rq_gr_S, ↓rq_s1_0, ↓rq_s1_1, ↓rq_s1_S, ↓rq_s2_0, ↓rq_s2_1, ↓rq_s2_S, ↓rq_nl_n, ↓rq_nl_i, ↓rq_nl_l, ↓rq_nl_r, ↓rq_i1_s, ↓rq_l1_s, ↓r1_s, ↓rq_q1_s, ↓rq_i2_s, ↓rq_l2_s, ↓rq_il_s, ↓rq_d0_s, ↓rq_d1_i, ↓rq_d1_r, ↓rq_d2_l, ↓rq_d2_ii, ↓rq_d2_ir, ↓px_pop, ↓px_sp, ↓px_rd, ↓px_rf, ↓pn_xf, ↓rq_pt_0, ↓rq_pt_1, ↓rq_pt_2, ↓rq_pt_3, ↓px_sw, ↓pn_SW, ↓px_ma, ↓reduceIte, Nat.reduceEqDiff, Nat.reduceAdd, Nat.reduceSub, ↓Option.toList_some, ↓Option.toList_none, ↓List.cons_append, ↓List.nil_append, ↓kI_s, ↓kJ_s, ↓kN_s, ↓kO_s, ↓kZ_s, ↓kE_s, ↓an_rfl, ↓bt1 n00, ↓bt2 n00, ↓bf1 n10, ↓bf2 n10, ↓an_sz0, ↓an_sz1, ↓an_sz2, ↓an_sz3, ↓an_sz4, ↓an_ri, ↓an_rb0, ↓an_rb1, ↓an_b0, ↓an_b1, true_and, ↓ai_0s, ↓al_0s, ↓av_0s, ↓aq_0s, ↓ai_1s, ↓al_1s, ↓av_1s, ↓aq_1s, ↓ai_2s, ↓al_2s, ↓av_2s, ↓aq_2s, ↓ai_3s, ↓al_3s, ↓av_3s, ↓aq_3s, ↓ai_4s, ↓al_4s, ↓av_4s, ↓aq_4s, ↓ai_5s, ↓al_5s, ↓av_5s, ↓aq_5s, ↓ai_6s, ↓al_6s, ↓av_6s, ↓aq_6s, ↓ai_7s, ↓al_7s, ↓av_7s, ↓aq_7s, ↓an_l6, ↓bk_7004, ↓kp_7004_21]
  rw [oW_some] at hs
  exact hs
set_option maxHeartbeats 4000000 in
set_option maxRecDepth 100000 in
theorem rl_7004_59 {C : px_C} (hn : px_nd (px_tb C)) {h : Nat} (hh : 31 ≤ h) (hC : px_ok C pn_i7004 h) {k : Option px_V → px_M → Prop} {x4 : Int32} {x5 : Int32} {σ : px_M} (hs : oW (f_7004_59 (px_tb C) σ x4 x5) (fun q => k (some (.inl q.1)) q.2)) : ∀ (z0 : Option px_V) (z1 : Option px_V) (z2 : Option px_V) (z3 : Option px_V), px_W C k 59 [z0, z1, z2, z3, some (.inl x4), some (.inl x5)] [] σ := by
  intro z0 z1 z2 z3
  refine px_runH (h - 1) ck_7004 [] [] 80 6 (some .int) rfl rfl hC px_nosp (by omega) px_nocut (fun G Jf hG hJf => ?_)
  unfold f_7004_59 at hs
  simp (implicitDefEqProofs := false) only [↓hG, ↓hJf, ↓px_vc, ↓px_ex, ↓px_jp, ↓rq_gi_0, ↓rq_gi_S, ↓rq_gl_0, ↓rq_gl_S, ↓rq_gr_0, ↓rq_gr_S, ↓rq_s1_0, ↓rq_s1_1, ↓rq_s1_S, ↓rq_s2_0, ↓rq_s2_1, ↓rq_s2_S, ↓rq_nl_n, ↓rq_nl_i, ↓rq_nl_l, ↓rq_nl_r, ↓rq_i1_s, ↓rq_l1_s, ↓r1_s, ↓rq_q1_s, ↓rq_i2_s, ↓rq_l2_s, ↓rq_il_s, ↓rq_d0_s, ↓rq_d1_i, ↓rq_d1_r, ↓rq_d2_l, ↓rq_d2_ii, ↓rq_d2_ir, ↓px_pop, ↓px_sp, ↓px_rd, ↓px_rf, ↓pn_xf, ↓rq_pt_0, ↓rq_pt_1, ↓rq_pt_2, ↓rq_pt_3, ↓px_sw, ↓pn_SW, ↓px_ma, ↓reduceIte, Nat.reduceEqDiff, Nat.reduceAdd, Nat.reduceSub, ↓Option.toList_some, ↓Option.toList_none, ↓List.cons_append, ↓List.nil_append, ↓kI_s, ↓kJ_s, ↓kN_s, ↓kO_s, ↓kZ_s, ↓kE_s, ↓an_rfl, ↓bt1 n00, ↓bt2 n00, ↓bf1 n10, ↓bf2 n10, ↓an_sz0, ↓an_sz1, ↓an_sz2, ↓an_sz3, ↓an_sz4, ↓an_ri, ↓an_rb0, ↓an_rb1, ↓an_b0, ↓an_b1, true_and, ↓ai_0s, ↓al_0s, ↓av_0s, ↓aq_0s, ↓ai_1s, ↓al_1s, ↓av_1s, ↓aq_1s, ↓ai_2s, ↓al_2s, ↓av_2s, ↓aq_2s, ↓ai_3s, ↓al_3s, ↓av_3s, ↓aq_3s, ↓ai_4s, ↓al_4s, ↓av_4s, ↓aq_4s, ↓ai_5s, ↓al_5s, ↓av_5s, ↓aq_5s, ↓ai_6s, ↓al_6s, ↓av_6s, ↓aq_6s, ↓ai_7s, ↓al_7s, ↓av_7s, ↓aq_7s, ↓an_l6, ↓bk_7004]
  rw [oW_some] at hs
  exact hs
set_option maxHeartbeats 4000000 in
set_option maxRecDepth 100000 in
theorem rl_7004_21 {C : px_C} (hn : px_nd (px_tb C)) {h : Nat} (hh : 31 ≤ h) (hC : px_ok C pn_i7004 h) {k : Option px_V → px_M → Prop} {x0 : Nat} {x1 : Nat} {x2 : Nat} {x3 : Int32} {x4 : Int32} : ∀ s : Int32 × px_M, oW (f_7004_21 (px_tb C) x0 x1 x2 x3 x4 s.1 s.2) (Sum.elim (fun s : Int32 × px_M => ∀ (z5 : Option px_V), px_W C k 3 [some (.inr (.inr (some x0))), some (.inr (.inr (some x1))), some (.inr (.inr (some x2))), some (.inl x3), some (.inl s.1), z5] [] s.2) (fun q => k (some (.inl q.1)) q.2)) → (fun s : Int32 × px_M => px_W C k 21 [some (.inr (.inr (some x0))), some (.inr (.inr (some x1))), some (.inr (.inr (some x2))), some (.inl x3), some (.inl x4), some (.inl s.1)] [] s.2) s := by
  intro s h0
  refine lpO_sound (P := (fun s : Int32 × px_M => px_W C k 21 [some (.inr (.inr (some x0))), some (.inr (.inr (some x1))), some (.inr (.inr (some x2))), some (.inl x3), some (.inl x4), some (.inl s.1)] [] s.2)) (fun s hs => ?_) h0
  obtain ⟨x5, σ⟩ := s
  refine px_runH (h - 1) ck_7004 [(7006, Sg_7006 (f_7006 (px_tb C))), (11006, Sg_11006 (f_11006 (px_tb C)))] [(3, kp_7004_3 (fun y0 y1 y2 y3 y4 τ => y0 = x0 ∧ y1 = x1 ∧ y2 = x2 ∧ y3 = x3 ∧ (fun s : Int32 × px_M => ∀ (z5 : Option px_V), px_W C k 3 [some (.inr (.inr (some x0))), some (.inr (.inr (some x1))), some (.inr (.inr (some x2))), some (.inl x3), some (.inl s.1), z5] [] s.2) (y4, τ))), (59, kp_7004_59 (fun y4 y5 τ => oW (f_7004_59 (px_tb C) τ y4 y5) (fun q => k (some (.inl q.1)) q.2))), (68, kp_7004_68 (fun y0 y1 y2 y3 y4 y5 τ => y0 = x0 ∧ y1 = x1 ∧ y2 = x2 ∧ y3 = x3 ∧ y4 = x4 ∧ oW (f_7004_68 (px_tb C) τ y0 y1 y2 y3 y4 y5) (Sum.elim (fun s : Int32 × px_M => px_W C k 21 [some (.inr (.inr (some x0))), some (.inr (.inr (some x1))), some (.inr (.inr (some x2))), some (.inl x3), some (.inl x4), some (.inl s.1)] [] s.2) (Sum.elim (fun s : Int32 × px_M => ∀ (z5 : Option px_V), px_W C k 3 [some (.inr (.inr (some x0))), some (.inr (.inr (some x1))), some (.inr (.inr (some x2))), some (.inl x3), some (.inl s.1), z5] [] s.2) (fun q => k (some (.inl q.1)) q.2)))))] 80 6 (some .int) rfl rfl hC (px_sp1 (mf_7006 hn (by omega)) (px_sp1 (mf_11006 hn (by omega)) px_nosp)) (by omega) (px_cut1 (kq_7004_3 (fun y0 y1 y2 y3 y4 τ hq => by obtain ⟨rfl, rfl, rfl, rfl, hq⟩ := hq; exact hq)) (px_cut1 (kq_7004_59 (fun y4 y5 τ hq => by exact rl_7004_59 hn (by omega) hC  hq)) (px_cut1 (kq_7004_68 (fun y0 y1 y2 y3 y4 y5 τ hq => by obtain ⟨rfl, rfl, rfl, rfl, rfl, hq⟩ := hq; exact rl_7004_68 hn (by omega) hC  hq)) px_nocut))) (fun G Jf hG hJf => ?_)
  replace hs : oW (F_7004_21 (px_tb C) x0 x1 x2 x3 x4 x5 σ) _ := hs
  unfold F_7004_21 at hs
  obtain ⟨hc0, hs⟩ := oW_gx hs
  obtain ⟨n1, hc1, hs⟩ := oW_bx hs
  obtain ⟨hc2, hs⟩ := oW_gx hs
  by_cases hc3 : ((σ).1 n1 0) ≤ x5
  · replace hs := oW_t hs hc3
    simp (implicitDefEqProofs := false) only [↓hG, ↓hJf, ↓px_vc, ↓px_ex, ↓px_jp, ↓rq_gi_0, ↓rq_gi_S, ↓rq_gl_0, ↓rq_gl_S, ↓rq_gr_0, ↓rq_gr_S, ↓rq_s1_0, ↓rq_s1_1, ↓rq_s1_S, ↓rq_s2_0, ↓rq_s2_1, ↓rq_s2_S, ↓rq_nl_n, ↓rq_nl_i, ↓rq_nl_l, ↓rq_nl_r, ↓rq_i1_s, ↓rq_l1_s, ↓r1_s, ↓rq_q1_s, ↓rq_i2_s, ↓rq_l2_s, ↓rq_il_s, ↓rq_d0_s, ↓rq_d1_i, ↓rq_d1_r, ↓rq_d2_l, ↓rq_d2_ii, ↓rq_d2_ir, ↓px_pop, ↓px_sp, ↓px_rd, ↓px_rf, ↓pn_xf, ↓rq_pt_0, ↓rq_pt_1, ↓rq_pt_2, ↓rq_pt_3, ↓px_sw, ↓pn_SW, ↓px_ma, ↓reduceIte, Nat.reduceEqDiff, Nat.reduceAdd, Nat.reduceSub, ↓Option.toList_some, ↓Option.toList_none, ↓List.cons_append, ↓List.nil_append, ↓kI_s, ↓kJ_s, ↓kN_s, ↓kO_s, ↓kZ_s, ↓kE_s, ↓an_rfl, ↓bt1 n00, ↓bt2 n00, ↓bf1 n10, ↓bf2 n10, ↓an_sz0, ↓an_sz1, ↓an_sz2, ↓an_sz3, ↓an_sz4, ↓an_ri, ↓an_rb0, ↓an_rb1, ↓an_b0, ↓an_b1, true_and, ↓ai_0s, ↓al_0s, ↓av_0s, ↓aq_0s, ↓ai_1s, ↓al_1s, ↓av_1s, ↓aq_1s, ↓ai_2s, ↓al_2s, ↓av_2s, ↓aq_2s, ↓ai_3s, ↓al_3s, ↓av_3s, ↓aq_3s, ↓ai_4s, ↓al_4s, ↓av_4s, ↓aq_4s, ↓ai_5s, ↓al_5s, ↓av_5s, ↓aq_5s, ↓ai_6s, ↓al_6s, ↓av_6s, ↓aq_6s, ↓ai_7s, ↓al_7s, ↓av_7s, ↓aq_7s, ↓an_l6, ↓bk_7004, ↓Sg_7006, ↓Sg_11006, ↓kp_7004_3, ↓kp_7004_59, ↓kp_7004_68, ↓an_t hc0, ↓an_rv hc0, ↓r1_e hc1, ↓av_0e hc1, ↓av_1e hc1, ↓av_2e hc1, ↓av_3e hc1, ↓an_t hc2, ↓an_rv hc2, ↓an_rvo hc1 hc2, ↓bt1 hc3, ↓bt2 hc3]
    rw [oW_some] at hs
    exact hs
  · replace hs := oW_f hs hc3
    obtain ⟨r2, hc4, hs⟩ := oW_bx hs
    by_cases hc5 : r2 = nI 0
    · replace hs := oW_t hs hc5
      simp (implicitDefEqProofs := false) only [↓hG, ↓hJf, ↓px_vc, ↓px_ex, ↓px_jp, ↓rq_gi_0, ↓rq_gi_S, ↓rq_gl_0, ↓rq_gl_S, ↓rq_gr_0, ↓rq_gr_S, ↓rq_s1_0, ↓rq_s1_1, ↓rq_s1_S, ↓rq_s2_0, ↓rq_s2_1, ↓rq_s2_S, ↓rq_nl_n, ↓rq_nl_i, ↓rq_nl_l, ↓rq_nl_r, ↓rq_i1_s, ↓rq_l1_s, ↓r1_s, ↓rq_q1_s, ↓rq_i2_s, ↓rq_l2_s, ↓rq_il_s, ↓rq_d0_s, ↓rq_d1_i, ↓rq_d1_r, ↓rq_d2_l, ↓rq_d2_ii, ↓rq_d2_ir, ↓px_pop, ↓px_sp, ↓px_rd, ↓px_rf, ↓pn_xf, ↓rq_pt_0, ↓rq_pt_1, ↓rq_pt_2, ↓rq_pt_3, ↓px_sw, ↓pn_SW, ↓px_ma, ↓reduceIte, Nat.reduceEqDiff, Nat.reduceAdd, Nat.reduceSub, ↓Option.toList_some, ↓Option.toList_none, ↓List.cons_append, ↓List.nil_append, ↓kI_s, ↓kJ_s, ↓kN_s, ↓kO_s, ↓kZ_s, ↓kE_s, ↓an_rfl, ↓bt1 n00, ↓bt2 n00, ↓bf1 n10, ↓bf2 n10, ↓an_sz0, ↓an_sz1, ↓an_sz2, ↓an_sz3, ↓an_sz4, ↓an_ri, ↓an_rb0, ↓an_rb1, ↓an_b0, ↓an_b1, true_and, ↓ai_0s, ↓al_0s, ↓av_0s, ↓aq_0s, ↓ai_1s, ↓al_1s, ↓av_1s, ↓aq_1s, ↓ai_2s, ↓al_2s, ↓av_2s, ↓aq_2s, ↓ai_3s, ↓al_3s, ↓av_3s, ↓aq_3s, ↓ai_4s, ↓al_4s, ↓av_4s, ↓aq_4s, ↓ai_5s, ↓al_5s, ↓av_5s, ↓aq_5s, ↓ai_6s, ↓al_6s, ↓av_6s, ↓aq_6s, ↓ai_7s, ↓al_7s, ↓av_7s, ↓aq_7s, ↓an_l6, ↓bk_7004, ↓Sg_7006, ↓Sg_11006, ↓kp_7004_3, ↓kp_7004_59, ↓kp_7004_68, ↓an_t hc0, ↓an_rv hc0, ↓r1_e hc1, ↓av_0e hc1, ↓av_1e hc1, ↓av_2e hc1, ↓av_3e hc1, ↓an_t hc2, ↓an_rv hc2, ↓an_rvo hc1 hc2, ↓bf1 hc3, ↓bf2 hc3, ↓oW_e hc4, ↓bt1 hc5, ↓bt2 hc5]
      exact hs
    · replace hs := oW_f hs hc5
      obtain ⟨q3, hc6, hs⟩ := oW_bx hs
      by_cases hc7 : x3 ≤ q3.1
      · replace hs := oW_t hs hc7
        simp (implicitDefEqProofs := false) only [↓hG, ↓hJf, ↓px_vc, ↓px_ex, ↓px_jp, ↓rq_gi_0, ↓rq_gi_S, ↓rq_gl_0, ↓rq_gl_S, ↓rq_gr_0, ↓rq_gr_S, ↓rq_s1_0, ↓rq_s1_1, ↓rq_s1_S, ↓rq_s2_0, ↓rq_s2_1, ↓rq_s2_S, ↓rq_nl_n, ↓rq_nl_i, ↓rq_nl_l, ↓rq_nl_r, ↓rq_i1_s, ↓rq_l1_s, ↓r1_s, ↓rq_q1_s, ↓rq_i2_s, ↓rq_l2_s, ↓rq_il_s, ↓rq_d0_s, ↓rq_d1_i, ↓rq_d1_r, ↓rq_d2_l, ↓rq_d2_ii, ↓rq_d2_ir, ↓px_pop, ↓px_sp, ↓px_rd, ↓px_rf, ↓pn_xf, ↓rq_pt_0, ↓rq_pt_1, ↓rq_pt_2, ↓rq_pt_3, ↓px_sw, ↓pn_SW, ↓px_ma, ↓reduceIte, Nat.reduceEqDiff, Nat.reduceAdd, Nat.reduceSub, ↓Option.toList_some, ↓Option.toList_none, ↓List.cons_append, ↓List.nil_append, ↓kI_s, ↓kJ_s, ↓kN_s, ↓kO_s, ↓kZ_s, ↓kE_s, ↓an_rfl, ↓bt1 n00, ↓bt2 n00, ↓bf1 n10, ↓bf2 n10, ↓an_sz0, ↓an_sz1, ↓an_sz2, ↓an_sz3, ↓an_sz4, ↓an_ri, ↓an_rb0, ↓an_rb1, ↓an_b0, ↓an_b1, true_and, ↓ai_0s, ↓al_0s, ↓av_0s, ↓aq_0s, ↓ai_1s, ↓al_1s, ↓av_1s, ↓aq_1s, ↓ai_2s, ↓al_2s, ↓av_2s, ↓aq_2s, ↓ai_3s, ↓al_3s, ↓av_3s, ↓aq_3s, ↓ai_4s, ↓al_4s, ↓av_4s, ↓aq_4s, ↓ai_5s, ↓al_5s, ↓av_5s, ↓aq_5s, ↓ai_6s, ↓al_6s, ↓av_6s, ↓aq_6s, ↓ai_7s, ↓al_7s, ↓av_7s, ↓aq_7s, ↓an_l6, ↓bk_7004, ↓Sg_7006, ↓Sg_11006, ↓kp_7004_3, ↓kp_7004_59, ↓kp_7004_68, ↓an_t hc0, ↓an_rv hc0, ↓r1_e hc1, ↓av_0e hc1, ↓av_1e hc1, ↓av_2e hc1, ↓av_3e hc1, ↓an_t hc2, ↓an_rv hc2, ↓an_rvo hc1 hc2, ↓bf1 hc3, ↓bf2 hc3, ↓oW_e hc4, ↓bf1 hc5, ↓bf2 hc5, ↓oW_e hc6, ↓bt1 hc7, ↓bt2 hc7]
        exact hs
      · replace hs := oW_f hs hc7
        simp (implicitDefEqProofs := false) only [↓hG, ↓hJf, ↓px_vc, ↓px_ex, ↓px_jp, ↓rq_gi_0, ↓rq_gi_S, ↓rq_gl_0, ↓rq_gl_S, ↓rq_gr_0, ↓rq_gr_S, ↓rq_s1_0, ↓rq_s1_1, ↓rq_s1_S, ↓rq_s2_0, ↓rq_s2_1, ↓rq_s2_S, ↓rq_nl_n, ↓rq_nl_i, ↓rq_nl_l, ↓rq_nl_r, ↓rq_i1_s, ↓rq_l1_s, ↓r1_s, ↓rq_q1_s, ↓rq_i2_s, ↓rq_l2_s, ↓rq_il_s, ↓rq_d0_s, ↓rq_d1_i, ↓rq_d1_r, ↓rq_d2_l, ↓rq_d2_ii, ↓rq_d2_ir, ↓px_pop, ↓px_sp, ↓px_rd, ↓px_rf, ↓pn_xf, ↓rq_pt_0, ↓rq_pt_1, ↓rq_pt_2, ↓rq_pt_3, ↓px_sw, ↓pn_SW, ↓px_ma, ↓reduceIte, Nat.reduceEqDiff, Nat.reduceAdd, Nat.reduceSub, ↓Option.toList_some, ↓Option.toList_none, ↓List.cons_append, ↓List.nil_append, ↓kI_s, ↓kJ_s, ↓kN_s, ↓kO_s, ↓kZ_s, ↓kE_s, ↓an_rfl, ↓bt1 n00, ↓bt2 n00, ↓bf1 n10, ↓bf2 n10, ↓an_sz0, ↓an_sz1, ↓an_sz2, ↓an_sz3, ↓an_sz4, ↓an_ri, ↓an_rb0, ↓an_rb1, ↓an_b0, ↓an_b1, true_and, ↓ai_0s, ↓al_0s, ↓av_0s, ↓aq_0s, ↓ai_1s, ↓al_1s, ↓av_1s, ↓aq_1s, ↓ai_2s, ↓al_2s, ↓av_2s, ↓aq_2s, ↓ai_3s, ↓al_3s, ↓av_3s, ↓aq_3s, ↓ai_4s, ↓al_4s, ↓av_4s, ↓aq_4s, ↓ai_5s, ↓al_5s, ↓av_5s, ↓aq_5s, ↓ai_6s, ↓al_6s, ↓av_6s, ↓aq_6s, ↓ai_7s, ↓al_7s, ↓av_7s, ↓aq_7s, ↓an_l6, ↓bk_7004, ↓Sg_7006, ↓Sg_11006, ↓kp_7004_3, ↓kp_7004_59, ↓kp_7004_68, ↓an_t hc0, ↓an_rv hc0, ↓r1_e hc1, ↓av_0e hc1, ↓av_1e hc1, ↓av_2e hc1, ↓av_3e hc1, ↓an_t hc2, ↓an_rv hc2, ↓an_rvo hc1 hc2, ↓bf1 hc3, ↓bf2 hc3, ↓oW_e hc4, ↓bf1 hc5, ↓bf2 hc5, ↓oW_e hc6, ↓bf1 hc7, ↓bf2 hc7]
        simp only [oW_map] at hs
        exact hs
set_option maxHeartbeats 4000000 in
set_option maxRecDepth 100000 in
theorem rl_7004_3 {C : px_C} (hn : px_nd (px_tb C)) {h : Nat} (hh : 31 ≤ h) (hC : px_ok C pn_i7004 h) {k : Option px_V → px_M → Prop} {x0 : Nat} {x1 : Nat} {x2 : Nat} {x3 : Int32} : ∀ s : Int32 × px_M, oW (f_7004_3 (px_tb C) x0 x1 x2 x3 s.1 s.2) (fun q => k (some (.inl q.1)) q.2) → (fun s : Int32 × px_M => ∀ (z5 : Option px_V), px_W C k 3 [some (.inr (.inr (some x0))), some (.inr (.inr (some x1))), some (.inr (.inr (some x2))), some (.inl x3), some (.inl s.1), z5] [] s.2) s := by
  intro s h0
  refine lpO_sound (P := (fun s : Int32 × px_M => ∀ (z5 : Option px_V), px_W C k 3 [some (.inr (.inr (some x0))), some (.inr (.inr (some x1))), some (.inr (.inr (some x2))), some (.inl x3), some (.inl s.1), z5] [] s.2)) (fun s hs => ?_) h0
  obtain ⟨x4, σ⟩ := s
  intro z5
  refine px_runH (h - 1) ck_7004 [(2002, Sg_2002 (f_2002 (px_tb C)))] [(21, kp_7004_21 (fun y0 y1 y2 y3 y4 y5 τ => y0 = x0 ∧ y1 = x1 ∧ y2 = x2 ∧ y3 = x3 ∧ oW (f_7004_21 (px_tb C) y0 y1 y2 y3 y4 y5 τ) (Sum.elim (fun s : Int32 × px_M => ∀ (z5 : Option px_V), px_W C k 3 [some (.inr (.inr (some x0))), some (.inr (.inr (some x1))), some (.inr (.inr (some x2))), some (.inl x3), some (.inl s.1), z5] [] s.2) (fun q => k (some (.inl q.1)) q.2)))), (92, kp_7004_92 (fun y0 y2 y3 y4 τ => oW (f_7004_92 (px_tb C) y0 y2 y3 y4 τ) (fun q => k (some (.inl q.1)) q.2)))] 80 6 (some .int) rfl rfl hC (px_sp1 (mf_2002 hn (by omega)) px_nosp) (by omega) (px_cut1 (kq_7004_21 (fun y0 y1 y2 y3 y4 y5 τ hq => by obtain ⟨rfl, rfl, rfl, rfl, hq⟩ := hq; exact rl_7004_21 hn (by omega) hC (y5, τ) hq)) (px_cut1 (kq_7004_92 (fun y0 y2 y3 y4 τ hq => by exact rl_7004_92 hn (by omega) hC (y4, τ) hq)) px_nocut)) (fun G Jf hG hJf => ?_)
  replace hs : oW (F_7004_3 (px_tb C) x0 x1 x2 x3 x4 σ) _ := hs
  unfold F_7004_3 at hs
  obtain ⟨hc0, hs⟩ := oW_gx hs
  obtain ⟨n1, hc1, hs⟩ := oW_bx hs
  obtain ⟨hc2, hs⟩ := oW_gx hs
  by_cases hc3 : ((σ).1 n1 0) ≤ x4
  · replace hs := oW_t hs hc3
    obtain ⟨hc4, hs⟩ := oW_gx hs
    obtain ⟨q2, hc5, hs⟩ := oW_bx hs
    simp (implicitDefEqProofs := false) only [↓hG, ↓hJf, ↓px_vc, ↓px_ex, ↓px_jp, ↓rq_gi_0, ↓rq_gi_S, ↓rq_gl_0, ↓rq_gl_S, ↓rq_gr_0, ↓rq_gr_S, ↓rq_s1_0, ↓rq_s1_1, ↓rq_s1_S, ↓rq_s2_0, ↓rq_s2_1, ↓rq_s2_S, ↓rq_nl_n, ↓rq_nl_i, ↓rq_nl_l, ↓rq_nl_r, ↓rq_i1_s, ↓rq_l1_s, ↓r1_s, ↓rq_q1_s, ↓rq_i2_s, ↓rq_l2_s, ↓rq_il_s, ↓rq_d0_s, ↓rq_d1_i, ↓rq_d1_r, ↓rq_d2_l, ↓rq_d2_ii, ↓rq_d2_ir, ↓px_pop, ↓px_sp, ↓px_rd, ↓px_rf, ↓pn_xf, ↓rq_pt_0, ↓rq_pt_1, ↓rq_pt_2, ↓rq_pt_3, ↓px_sw, ↓pn_SW, ↓px_ma, ↓reduceIte, Nat.reduceEqDiff, Nat.reduceAdd, Nat.reduceSub, ↓Option.toList_some, ↓Option.toList_none, ↓List.cons_append, ↓List.nil_append, ↓kI_s, ↓kJ_s, ↓kN_s, ↓kO_s, ↓kZ_s, ↓kE_s, ↓an_rfl, ↓bt1 n00, ↓bt2 n00, ↓bf1 n10, ↓bf2 n10, ↓an_sz0, ↓an_sz1, ↓an_sz2, ↓an_sz3, ↓an_sz4, ↓an_ri, ↓an_rb0, ↓an_rb1, ↓an_b0, ↓an_b1, true_and, ↓ai_0s, ↓al_0s, ↓av_0s, ↓aq_0s, ↓ai_1s, ↓al_1s, ↓av_1s, ↓aq_1s, ↓ai_2s, ↓al_2s, ↓av_2s, ↓aq_2s, ↓ai_3s, ↓al_3s, ↓av_3s, ↓aq_3s, ↓ai_4s, ↓al_4s, ↓av_4s, ↓aq_4s, ↓ai_5s, ↓al_5s, ↓av_5s, ↓aq_5s, ↓ai_6s, ↓al_6s, ↓av_6s, ↓aq_6s, ↓ai_7s, ↓al_7s, ↓av_7s, ↓aq_7s, ↓an_l6, ↓bk_7004, ↓Sg_2002, ↓kp_7004_21, ↓kp_7004_92, ↓an_t hc0, ↓an_rv hc0, ↓r1_e hc1, ↓av_0e hc1, ↓av_1e hc1, ↓av_2e hc1, ↓av_3e hc1, ↓an_t hc2, ↓an_rv hc2, ↓an_rvo hc1 hc2, ↓bt1 hc3, ↓bt2 hc3, ↓an_t hc4, ↓an_rv hc4, ↓oW_e hc5]
    simp only [oW_map] at hs
    exact hs
  · replace hs := oW_f hs hc3
    simp (implicitDefEqProofs := false) only [↓hG, ↓hJf, ↓px_vc, ↓px_ex, ↓px_jp, ↓rq_gi_0, ↓rq_gi_S, ↓rq_gl_0, ↓rq_gl_S, ↓rq_gr_0, ↓rq_gr_S, ↓rq_s1_0, ↓rq_s1_1, ↓rq_s1_S, ↓rq_s2_0, ↓rq_s2_1, ↓rq_s2_S, ↓rq_nl_n, ↓rq_nl_i, ↓rq_nl_l, ↓rq_nl_r, ↓rq_i1_s, ↓rq_l1_s, ↓r1_s, ↓rq_q1_s, ↓rq_i2_s, ↓rq_l2_s, ↓rq_il_s, ↓rq_d0_s, ↓rq_d1_i, ↓rq_d1_r, ↓rq_d2_l, ↓rq_d2_ii, ↓rq_d2_ir, ↓px_pop, ↓px_sp, ↓px_rd, ↓px_rf, ↓pn_xf, ↓rq_pt_0, ↓rq_pt_1, ↓rq_pt_2, ↓rq_pt_3, ↓px_sw, ↓pn_SW, ↓px_ma, ↓reduceIte, Nat.reduceEqDiff, Nat.reduceAdd, Nat.reduceSub, ↓Option.toList_some, ↓Option.toList_none, ↓List.cons_append, ↓List.nil_append, ↓kI_s, ↓kJ_s, ↓kN_s, ↓kO_s, ↓kZ_s, ↓kE_s, ↓an_rfl, ↓bt1 n00, ↓bt2 n00, ↓bf1 n10, ↓bf2 n10, ↓an_sz0, ↓an_sz1, ↓an_sz2, ↓an_sz3, ↓an_sz4, ↓an_ri, ↓an_rb0, ↓an_rb1, ↓an_b0, ↓an_b1, true_and, ↓ai_0s, ↓al_0s, ↓av_0s, ↓aq_0s, ↓ai_1s, ↓al_1s, ↓av_1s, ↓aq_1s, ↓ai_2s, ↓al_2s, ↓av_2s, ↓aq_2s, ↓ai_3s, ↓al_3s, ↓av_3s, ↓aq_3s, ↓ai_4s, ↓al_4s, ↓av_4s, ↓aq_4s, ↓ai_5s, ↓al_5s, ↓av_5s, ↓aq_5s, ↓ai_6s, ↓al_6s, ↓av_6s, ↓aq_6s, ↓ai_7s, ↓al_7s, ↓av_7s, ↓aq_7s, ↓an_l6, ↓bk_7004, ↓Sg_2002, ↓kp_7004_21, ↓kp_7004_92, ↓an_t hc0, ↓an_rv hc0, ↓r1_e hc1, ↓av_0e hc1, ↓av_1e hc1, ↓av_2e hc1, ↓av_3e hc1, ↓an_t hc2, ↓an_rv hc2, ↓an_rvo hc1 hc2, ↓bf1 hc3, ↓bf2 hc3]
    exact hs
set_option maxHeartbeats 4000000 in
set_option maxRecDepth 100000 in
theorem mf_7004 {tab : px_T} (hn : px_nd tab) {h : Nat} (hh : 31 ≤ h) : px_Ok tab pn_i7004 h (Sg_7004 (f_7004 tab)) := by
  refine px_mth hn (by decide +kernel) (fun av σ k hS => ?_) (fun C hT hC av σ k hS => ?_)
  · obtain ⟨x0, av0, e0, h0⟩ := av_0p hS
    obtain ⟨x1, av1, e1, h1⟩ := av_1p h0
    obtain ⟨x2, av2, e2, h2⟩ := av_2p h1
    obtain ⟨x3, av3, e3, h3⟩ := ai_3p h2
    obtain ⟨ez, hs⟩ := h3
    subst ez
    subst e3
    subst e2
    subst e1
    subst e0
    exact Nat.le_of_ble_eq_true rfl
  · obtain ⟨x0, av0, e0, h0⟩ := av_0p hS
    obtain ⟨x1, av1, e1, h1⟩ := av_1p h0
    obtain ⟨x2, av2, e2, h2⟩ := av_2p h1
    obtain ⟨x3, av3, e3, h3⟩ := ai_3p h2
    obtain ⟨ez, hs⟩ := h3
    subst ez
    subst e3
    subst e2
    subst e1
    subst e0
    subst hT
    show px_W C k 0 [some (.inr (.inr (some x0))), some (.inr (.inr (some x1))), some (.inr (.inr (some x2))), some (.inl x3), none, none] [] σ
    refine px_runH (h - 1) ck_7004 [] [(3, kp_7004_3 (fun y0 y1 y2 y3 y4 τ => oW (f_7004_3 (px_tb C) y0 y1 y2 y3 y4 τ) (fun q => k (some (.inl q.1)) q.2)))] 80 6 (some .int) rfl rfl hC px_nosp (by omega) (px_cut1 (kq_7004_3 (fun y0 y1 y2 y3 y4 τ hq => by exact rl_7004_3 hn (by omega) hC (y4, τ) hq)) px_nocut) (fun G Jf hG hJf => ?_)
    unfold f_7004 at hs
    simp (implicitDefEqProofs := false) only [↓hG, ↓hJf, ↓px_vc, ↓px_ex, ↓px_jp, ↓rq_gi_0, ↓rq_gi_S, ↓rq_gl_0, ↓rq_gl_S, ↓rq_gr_0, ↓rq_gr_S, ↓rq_s1_0, ↓rq_s1_1, ↓rq_s1_S, ↓rq_s2_0, ↓rq_s2_1, ↓rq_s2_S, ↓rq_nl_n, ↓rq_nl_i, ↓rq_nl_l, ↓rq_nl_r, ↓rq_i1_s, ↓rq_l1_s, ↓r1_s, ↓rq_q1_s, ↓rq_i2_s, ↓rq_l2_s, ↓rq_il_s, ↓rq_d0_s, ↓rq_d1_i, ↓rq_d1_r, ↓rq_d2_l, ↓rq_d2_ii, ↓rq_d2_ir, ↓px_pop, ↓px_sp, ↓px_rd, ↓px_rf, ↓pn_xf, ↓rq_pt_0, ↓rq_pt_1, ↓rq_pt_2, ↓rq_pt_3, ↓px_sw, ↓pn_SW, ↓px_ma, ↓reduceIte, Nat.reduceEqDiff, Nat.reduceAdd, Nat.reduceSub, ↓Option.toList_some, ↓Option.toList_none, ↓List.cons_append, ↓List.nil_append, ↓kI_s, ↓kJ_s, ↓kN_s, ↓kO_s, ↓kZ_s, ↓kE_s, ↓an_rfl, ↓bt1 n00, ↓bt2 n00, ↓bf1 n10, ↓bf2 n10, ↓an_sz0, ↓an_sz1, ↓an_sz2, ↓an_sz3, ↓an_sz4, ↓an_ri, ↓an_rb0, ↓an_rb1, ↓an_b0, ↓an_b1, true_and, ↓ai_0s, ↓al_0s, ↓av_0s, ↓aq_0s, ↓ai_1s, ↓al_1s, ↓av_1s, ↓aq_1s, ↓ai_2s, ↓al_2s, ↓av_2s, ↓aq_2s, ↓ai_3s, ↓al_3s, ↓av_3s, ↓aq_3s, ↓ai_4s, ↓al_4s, ↓av_4s, ↓aq_4s, ↓ai_5s, ↓al_5s, ↓av_5s, ↓aq_5s, ↓ai_6s, ↓al_6s, ↓av_6s, ↓aq_6s, ↓ai_7s, ↓al_7s, ↓av_7s, ↓aq_7s, ↓an_l6, ↓bk_7004, ↓kp_7004_3]
    exact hs
