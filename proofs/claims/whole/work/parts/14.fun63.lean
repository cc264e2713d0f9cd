/-! shallow functions, printed by wip/whole/decomp.py -/
def Sg_12048 (g : px_M → Nat → Option (Int32 × px_M)) : px_S := fun av σ k => av_0 av (fun x0 av => av = [] ∧ oW (g σ x0) (fun q => k (some (.inl q.1)) q.2))
/-- NoThree.dearness()I -/
noncomputable def f_12048 (tab : px_T) (σ : px_M) (x0 : Nat) : Option (Int32 × px_M) := gd (px_obj (px_lay tab x0) 12) ((((σ).2.2 x0 0)).bind fun n1 => gd (px_obj (px_lay tab n1) 1) ((((σ).2.2 x0 11)).bind fun n2 => gd (px_obj (px_lay tab n2) 7) ((((σ).2.2 n1 0)).bind fun n3 => (f_7002 tab σ n2 n3).bind fun q4 => (((q4).2.2 x0 0)).bind fun n5 => gd (px_obj (px_lay tab n5) 1) ((((q4).2.2 x0 11)).bind fun n6 => gd (px_obj (px_lay tab n6) 7) ((((q4).2.2 n5 1)).bind fun n7 => (((q4).2.2 x0 10)).bind fun n8 => (f_7005 tab q4 n6 n7 n8).bind fun q9 => some ((q9.1, q9.2)))))))
set_option maxHeartbeats 4000000 in
set_option maxRecDepth 100000 in
theorem mf_12048 {tab : px_T} (hn : px_nd tab) {h : Nat} (hh : 32 ≤ h) : px_Ok tab pn_i12048 h (Sg_12048 (f_12048 tab)) := by
  refine px_mth hn (by decide +kernel) (fun av σ k hS => ?_) (fun C hT hC av σ k hS => ?_)
  · obtain ⟨x0, av0, e0, h0⟩ := av_0p hS
    obtain ⟨ez, hs⟩ := h0
    subst ez
    subst e0
    exact Nat.le_of_ble_eq_true rfl
  · obtain ⟨x0, av0, e0, h0⟩ := av_0p hS
    obtain ⟨ez, hs⟩ := h0
    subst ez
    subst e0
    subst hT
    show px_W C k 0 [some (.inr (.inr (some x0)))] [] σ
    refine px_runH (h - 1) ck_12048 [(7002, Sg_7002 (f_7002 (px_tb C))), (7005, Sg_7005 (f_7005 (px_tb C)))] [] 80 1 (some .int) rfl rfl hC (px_sp1 (mf_7002 hn (by omega)) (px_sp1 (mf_7005 hn (by omega)) px_nosp)) (by omega) px_nocut (fun G Jf hG hJf => ?_)
    unfold f_12048 at hs
    obtain ⟨hc0, hs⟩ := oW_gx hs
    obtain ⟨n1, hc1, hs⟩ := oW_bx hs
    obtain ⟨hc2, hs⟩ := oW_gx hs
    obtain ⟨n2, hc3, hs⟩ := oW_bx hs
    obtain ⟨hc4, hs⟩ := oW_gx hs
    obtain ⟨n3, hc5, hs⟩ := oW_bx hs
    obtain ⟨q4, hc6, hs⟩ := oW_bx hs
    obtain ⟨n5, hc7, hs⟩ := oW_bx hs
    obtain ⟨hc8, hs⟩ := oW_gx hs
    obtain ⟨n6, hc9, hs⟩ := oW_bx hs
    obtain ⟨hc10, hs⟩ := oW_gx hs
    obtain ⟨n7, hc11, hs⟩ := oW_bx hs
    obtain ⟨n8, hc12, hs⟩ := oW_bx hs
    obtain ⟨q9, hc13, hs⟩ := oW_bx hs
    simp (implicitDefEqProofs := false) only [↓hG, ↓hJf, ↓px_vc, ↓px_ex, ↓px_jp, ↓rq_gi_0, ↓rq_gi_S, ↓rq_gl_0, ↓rq_gl_S, ↓rq_gr_0, ↓rq_gr_S, ↓rq_s1_0, ↓rq_s1_1, ↓rq_s1_S, ↓rq_s2_0, ↓rq_s2_1, ↓rq_s2_S, ↓rq_nl_n, ↓rq_nl_i, ↓rq_nl_l, ↓rq_nl_r, ↓rq_i1_s, ↓rq_l1_s, ↓r1_s, ↓rq_q1_s, ↓rq_i2_s, ↓rq_l2_s, ↓rq_il_s, ↓rq_d0_s, ↓rq_d1_i, ↓rq_d1_r, ↓rq_d2_l, ↓rq_d2_ii, ↓rq_d2_ir, ↓px_pop, ↓px_sp, ↓px_rd, ↓px_rf, ↓pn_xf, ↓rq_pt_0, ↓rq_pt_1, ↓rq_pt_2, ↓rq_pt_3, ↓px_sw, ↓pn_SW, ↓px_ma, ↓reduceIte, Nat.reduceEqDiff, Nat.reduceAdd, Nat.reduceSub, ↓Option.toList_some, ↓Option.toList_none, ↓List.cons_append, ↓List.nil_append, ↓kI_s, ↓kJ_s, ↓kN_s, ↓kO_s, ↓kZ_s, ↓kE_s, ↓an_rfl, ↓bt1 n00, ↓bt2 n00, ↓bf1 n10, ↓bf2 n10, ↓an_sz0, ↓an_sz1, ↓an_sz2, ↓an_sz3, ↓an_sz4, ↓an_ri, ↓an_rb0, ↓an_rb1, ↓an_b0, ↓an_b1, true_and, ↓ai_0s, ↓al_0s, ↓av_0s, ↓aq_0s, ↓ai_1s, ↓al_1s, ↓av_1s, ↓aq_1s, ↓ai_2s, ↓al_2s, ↓av_2s, ↓aq_2s, ↓ai_3s, ↓al_3s, ↓av_3s, ↓aq_3s, ↓ai_4s, ↓al_4s, ↓av_4s, ↓aq_4s, ↓ai_5s, ↓al_5s, ↓av_5s, ↓aq_5s, ↓ai_6s, ↓al_6s, ↓av_6s, ↓aq_6s, ↓ai_7s, ↓al_7s, ↓av_7s, ↓aq_7s, ↓an_l1, ↓bk_12048, ↓Sg_7002, ↓Sg_7005, ↓an_t hc0, ↓an_rv hc0, ↓r1_e hc1, ↓av_0e hc1, ↓av_1e hc1, ↓av_2e hc1, ↓av_3e hc1, ↓an_t hc2, ↓an_rv hc2, ↓an_rvo hc1 hc2, ↓r1_e hc3, ↓av_0e hc3, ↓av_1e hc3, ↓av_2e hc3, ↓av_3e hc3, ↓an_t hc4, ↓an_rv hc4, ↓an_rvo hc3 hc4, ↓r1_e hc5, ↓av_0e hc5, ↓av_1e hc5, ↓av_2e hc5, ↓av_3e hc5, ↓oW_e hc6, ↓r1_e hc7, ↓av_0e hc7, ↓av_1e hc7, ↓av_2e hc7, ↓av_3e hc7, ↓an_t hc8, ↓an_rv hc8, ↓an_rvo hc7 hc8, ↓r1_e hc9, ↓av_0e hc9, ↓av_1e hc9, ↓av_2e hc9, ↓av_3e hc9, ↓an_t hc10, ↓an_rv hc10, ↓an_rvo hc9 hc10, ↓r1_e hc11, ↓av_0e hc11, ↓av_1e hc11, ↓av_2e hc11, ↓av_3e hc11, ↓r1_e hc12, ↓av_0e hc12, ↓av_1e hc12, ↓av_2e hc12, ↓av_3e hc12, ↓oW_e hc13]
    rw [oW_some] at hs
    exact hs
def Sg_12049 (g : px_M → Nat → Int32 → Int32 → Int32 → Option (Int32 × px_M)) : px_S := fun av σ k => av_0 av (fun x0 av => ai_1 av (fun x1 av => ai_2 av (fun x2 av => ai_3 av (fun x3 av => av = [] ∧ oW (g σ x0 x1 x2 x3) (fun q => k (some (.inl q.1)) q.2)))))
/-- NoThree.numbers(III)I -/
noncomputable def F_12049_49 (tab : px_T) (x0 : Nat) (x1 : Int32) (x3 : Int32) (x4 : Int32) (σ : px_M) : Option ((Int32 × px_M) ⊕ (Int32 × px_M)) := if x3 ≤ x4 then (some (.inr (((nI 0), σ)))) else (gd (px_obj (px_lay tab x0) 12) ((((σ).2.2 x0 13)).bind fun n1 => oA (px_lay tab n1) fun t2 l3 => gd (t2 = 3) (gd (vp_in ((x1 * (nI 40)) + x4) l3) (some (.inl (((x4 + (nI 1)), (px_wl σ n1 (((x1 * (nI 40)) + x4)).toNatClampNeg (lN 0)))))))))
noncomputable def f_12049_49 (tab : px_T) (x0 : Nat) (x1 : Int32) (x3 : Int32) (x4 : Int32) (σ : px_M) : Option (Int32 × px_M) := lpO (fun s : Int32 × px_M => F_12049_49 tab x0 x1 x3 s.1 s.2) (x4, σ)
theorem f_12049_49_eq (tab : px_T) (x0 : Nat) (x1 : Int32) (x3 : Int32) (x4 : Int32) (σ : px_M) : f_12049_49 tab x0 x1 x3 x4 σ = (F_12049_49 tab x0 x1 x3 x4 σ).bind (Sum.elim (fun s => f_12049_49 tab x0 x1 x3 s.1 s.2) some) := lpO_eq _ _
noncomputable def f_12049_29 (tab : px_T) (σ : px_M) : Option (Int32 × px_M) := some (((-3), σ))
noncomputable def f_12049 (tab : px_T) (σ : px_M) (x0 : Nat) (x1 : Int32) (x2 : Int32) (x3 : Int32) : Option (Int32 × px_M) := (f_12055 tab σ x1).bind fun r1 => if r1 = nI 0 then (some (((-2), σ))) else (if x2 < nI 0 then (some (((-2), σ))) else (if x2 < (nI 4) then (if x3 < nI 0 then (f_12049_29 tab σ) else (if x3 ≤ (nI 40) then (gd (px_obj (px_lay tab x0) 12) ((((σ).2.2 x0 14)).bind fun n2 => oA (px_lay tab n2) fun t3 l4 => gd (t3 = 0) (gd (vp_in x1 l4) (((((px_wi σ n2 (x1).toNatClampNeg x2)).2.2 x0 15)).bind fun n5 => oA (px_lay tab n5) fun t6 l7 => gd (t6 = 0) (gd (vp_in x1 l7) (f_12049_49 tab x0 x1 x3 ((nI 0)) ((px_wi (px_wi σ n2 (x1).toNatClampNeg x2) n5 (x1).toNatClampNeg x3)))))))) else (f_12049_29 tab σ))) else (some (((-2), σ)))))
def kp_12049_49 (Q : Nat → Int32 → Int32 → Int32 → px_M → Prop) : px_P := fun ls st τ => st = [] ∧ kN ls (fun x0 ls => kI ls (fun x1 ls => kZ ls (fun ls => kI ls (fun x3 ls => kI ls (fun x4 ls => kE ls (Q x0 x1 x3 x4 τ))))))
theorem kq_12049_49 {C : px_C} {k : Option px_V → px_M → Prop} {Q : Nat → Int32 → Int32 → Int32 → px_M → Prop} (H : ∀ (x0 : Nat) (x1 : Int32) (x3 : Int32) (x4 : Int32) (τ : px_M), Q x0 x1 x3 x4 τ → ∀ (z2 : Option px_V), px_W C k 49 [some (.inr (.inr (some x0))), some (.inl x1), z2, some (.inl x3), some (.inl x4)] [] τ) : ∀ ls st τ, kp_12049_49 Q ls st τ → px_W C k 49 ls st τ := by
  intro ls st τ hz
  obtain ⟨ez, h0⟩ := hz
  obtain ⟨x0, l0, e0, h1⟩ := kN_sp h0
  obtain ⟨x1, l1, e1, h2⟩ := kI_sp h1
  obtain ⟨z2, l2, e2, h3⟩ := kZ_sp h2
  obtain ⟨x3, l3, e3, h4⟩ := kI_sp h3
  obtain ⟨x4, l4, e4, h5⟩ := kI_sp h4
  obtain ⟨ey, hy⟩ := kE_sp h5
  subst ez
  subst ey
  subst e4
  subst e3
  subst e2
  subst e1
  subst e0
  exact H x0 x1 x3 x4 τ hy z2
def kp_12049_29 (Q : px_M → Prop) : px_P := fun ls st τ => st = [] ∧ kZ ls (fun ls => kZ ls (fun ls => kZ ls (fun ls => kZ ls (fun ls => kZ ls (fun ls => kE ls (Q τ))))))
theorem kq_12049_29 {C : px_C} {k : Option px_V → px_M → Prop} {Q : px_M → Prop} (H : ∀ (τ : px_M), Q τ → ∀ (z0 : Option px_V) (z1 : Option px_V) (z2 : Option px_V) (z3 : Option px_V) (z4 : Option px_V), px_W C k 29 [z0, z1, z2, z3, z4] [] τ) : ∀ ls st τ, kp_12049_29 Q ls st τ → px_W C k 29 ls st τ := by
  intro ls st τ hz
  obtain ⟨ez, h0⟩ := hz
  obtain ⟨z0, l0, e0, h1⟩ := kZ_sp h0
  obtain ⟨z1, l1, e1, h2⟩ := kZ_sp h1
  obtain ⟨z2, l2, e2, h3⟩ := kZ_sp h2
  obtain ⟨z3, l3, e3, h4⟩ := kZ_sp h3
  obtain ⟨z4, l4, e4, h5⟩ := kZ_sp h4
  obtain ⟨ey, hy⟩ := kE_sp h5
  subst ez
  subst ey
  subst e4
  subst e3
  subst e2
  subst e1
  subst e0
  exact H τ hy z0 z1 z2 z3 z4
set_option maxHeartbeats 4000000 in
set_option maxRecDepth 100000 in
theorem rl_12049_49 {C : px_C} (hn : px_nd (px_tb C)) {h : Nat} (hh : 2 ≤ h) (hC : px_ok C pn_i12049 h) {k : Option px_V → px_M → Prop} {x0 : Nat} {x1 : Int32} {x3 : Int32} : ∀ s : Int32 × px_M, oW (f_12049_49 (px_tb C) x0 x1 x3 s.1 s.2) (fun q => k (some (.inl q.1)) q.2) → (fun s : Int32 × px_M => ∀ (z2 : Option px_V), px_W C k 49 [some (.inr (.inr (some x0))), some (.inl x1), z2, some (.inl x3), some (.inl s.1)] [] s.2) s := by
  intro s h0
  refine lpO_sound (P := (fun s : Int32 × px_M => ∀ (z2 : Option px_V), px_W C k 49 [some (.inr (.inr (some x0))), some (.inl x1), z2, some (.inl x3), some (.inl s.1)] [] s.2)) (fun s hs => ?_) h0
  obtain ⟨x4, σ⟩ := s
  intro z2
  refine px_runH (h - 1) ck_12049 [] [(49, kp_12049_49 (fun y0 y1 y3 y4 τ => y0 = x0 ∧ y1 = x1 ∧ y3 = x3 ∧ (fun s : Int32 × px_M => ∀ (z2 : Option px_V), px_W C k 49 [some (.inr (.inr (some x0))), some (.inl x1), z2, some (.inl x3), some (.inl s.1)] [] s.2) (y4, τ)))] 80 5 (some .int) rfl rfl hC px_nosp (by omega) (px_cut1 (kq_12049_49 (fun y0 y1 y3 y4 τ hq => by obtain ⟨rfl, rfl, rfl, hq⟩ := hq; exact hq)) px_nocut) (fun G Jf hG hJf => ?_)
  replace hs : oW (F_12049_49 (px_tb C) x0 x1 x3 x4 σ) _ := hs
  unfold F_12049_49 at hs
  by_cases hc0 : x3 ≤ x4
  · replace hs := oW_t hs hc0
    simp (implicitDefEqProofs := false) only [↓hG, ↓hJf, ↓px_vc, ↓px_ex, ↓px_jp, ↓rq_gi_0, ↓rq_gi_S, ↓rq_gl_0, ↓rq_gl_S, ↓rq_gr_0, ↓rq_gr_S, ↓rq_s1_0, ↓rq_s1_1, ↓rq_s1_S, ↓rq_s2_0, ↓rq_s2_1, ↓rq_s2_S, ↓rq_nl_n, ↓rq_nl_i, ↓rq_nl_l, ↓rq_nl_r, ↓rq_i1_s, ↓rq_l1_s, ↓r1_s, ↓rq_q1_s, ↓rq_i2_s, ↓rq_l2_s, ↓rq_il_s, ↓rq_d0_s, ↓rq_d1_i, ↓rq_d1_r, ↓rq_d2_l, ↓rq_d2_ii, ↓rq_d2_ir, ↓px_pop, ↓px_sp, ↓px_rd, ↓px_rf, ↓pn_xf, ↓rq_pt_0, ↓rq_pt_1, ↓rq_pt_2, ↓rq_pt_3, ↓px_sw, ↓pn_SW, ↓px_ma, ↓reduceIte, Nat.reduceEqDiff, Nat.reduceAdd, Nat.reduceSub, ↓Option.toList_some, ↓Option.toList_none, ↓List.cons_append, ↓List.nil_append, ↓kI_s, ↓kJ_s, ↓kN_s, ↓kO_s, ↓kZ_s, ↓kE_s, ↓an_rfl, ↓bt1 n00, ↓bt2 n00, ↓bf1 n10, ↓bf2 n10, ↓an_sz0, ↓an_sz1, ↓an_sz2, ↓an_sz3, ↓an_sz4, ↓an_ri, ↓an_rb0, ↓an_rb1, ↓an_b0, ↓an_b1, true_and, ↓ai_0s, ↓al_0s, ↓av_0s, ↓aq_0s, ↓ai_1s, ↓al_1s, ↓av_1s, ↓aq_1s, ↓ai_2s, ↓al_2s, ↓av_2s, ↓aq_2s, ↓ai_3s, ↓al_3s, ↓av_3s, ↓aq_3s, ↓ai_4s, ↓al_4s, ↓av_4s, ↓aq_4s, ↓ai_5s, ↓al_5s, ↓av_5s, ↓aq_5s, ↓ai_6s, ↓al_6s, ↓av_6s, ↓aq_6s, ↓ai_7s, ↓al_7s, ↓av_7s, ↓aq_7s, ↓an_l5, ↓bk_12049, ↓kp_12049_49, ↓bt1 hc0, ↓bt2 hc0]
    rw [oW_some] at hs
    exact hs
  · replace hs := oW_f hs hc0
    obtain ⟨hc1, hs⟩ := oW_gx hs
    obtain ⟨n1, hc2, hs⟩ := oW_bx hs
    obtain ⟨t2, l3, hc3, hs⟩ := oW_ax hs
    obtain ⟨hc4, hs⟩ := oW_gx hs
    obtain ⟨hc5, hs⟩ := oW_gx hs
    simp (implicitDefEqProofs := false) only [↓hG, ↓hJf, ↓px_vc, ↓px_ex, ↓px_jp, ↓rq_gi_0, ↓rq_gi_S, ↓rq_gl_0, ↓rq_gl_S, ↓rq_gr_0, ↓rq_gr_S, ↓rq_s1_0, ↓rq_s1_1, ↓rq_s1_S, ↓rq_s2_0, ↓rq_s2_1, ↓rq_s2_S, ↓rq_nl_n, ↓rq_nl_i, ↓rq_nl_l, ↓rq_nl_r, ↓rq_i1_s, ↓rq_l1_s, ↓r1_s, ↓rq_q1_s, ↓rq_i2_s, ↓rq_l2_s, ↓rq_il_s, ↓rq_d0_s, ↓rq_d1_i, ↓rq_d1_r, ↓rq_d2_l, ↓rq_d2_ii, ↓rq_d2_ir, ↓px_pop, ↓px_sp, ↓px_rd, ↓px_rf, ↓pn_xf, ↓rq_pt_0, ↓rq_pt_1, ↓rq_pt_2, ↓rq_pt_3, ↓px_sw, ↓pn_SW, ↓px_ma, ↓reduceIte, Nat.reduceEqDiff, Nat.reduceAdd, Nat.reduceSub, ↓Option.toList_some, ↓Option.toList_none, ↓List.cons_append, ↓List.nil_append, ↓kI_s, ↓kJ_s, ↓kN_s, ↓kO_s, ↓kZ_s, ↓kE_s, ↓an_rfl, ↓bt1 n00, ↓bt2 n00, ↓bf1 n10, ↓bf2 n10, ↓an_sz0, ↓an_sz1, ↓an_sz2, ↓an_sz3, ↓an_sz4, ↓an_ri, ↓an_rb0, ↓an_rb1, ↓an_b0, ↓an_b1, true_and, ↓ai_0s, ↓al_0s, ↓av_0s, ↓aq_0s, ↓ai_1s, ↓al_1s, ↓av_1s, ↓aq_1s, ↓ai_2s, ↓al_2s, ↓av_2s, ↓aq_2s, ↓ai_3s, ↓al_3s, ↓av_3s, ↓aq_3s, ↓ai_4s, ↓al_4s, ↓av_4s, ↓aq_4s, ↓ai_5s, ↓al_5s, ↓av_5s, ↓aq_5s, ↓ai_6s, ↓al_6s, ↓av_6s, ↓aq_6s, ↓ai_7s, ↓al_7s, ↓av_7s, ↓aq_7s, ↓an_l5, ↓bk_12049, ↓kp_12049_49, ↓bf1 hc0, ↓bf2 hc0, ↓an_t hc1, ↓an_rv hc1, ↓r1_e hc2, ↓av_0e hc2, ↓av_1e hc2, ↓av_2e hc2, ↓av_3e hc2, ↓ar_e hc3, ↓an_t hc4, ↓an_t hc5]
    rw [oW_some] at hs
    exact hs
set_option maxHeartbeats 4000000 in
set_option maxRecDepth 100000 in
theorem rl_12049_29 {C : px_C} (hn : px_nd (px_tb C)) {h : Nat} (hh : 2 ≤ h) (hC : px_ok C pn_i12049 h) {k : Option px_V → px_M → Prop} {σ : px_M} (hs : oW (f_12049_29 (px_tb C) σ) (fun q => k (some (.inl q.1)) q.2)) : ∀ (z0 : Option px_V) (z1 : Option px_V) (z2 : Option px_V) (z3 : Option px_V) (z4 : Option px_V), px_W C k 29 [z0, z1, z2, z3, z4] [] σ := by
  intro z0 z1 z2 z3 z4
  refine px_runH (h - 1) ck_12049 [] [] 80 5 (some .int) rfl rfl hC px_nosp (by omega) px_nocut (fun G Jf hG hJf => ?_)
  unfold f_12049_29 at hs
  simp (implicitDefEqProofs := false) only [↓hG, ↓hJf, ↓px_vc, ↓px_ex, ↓px_jp, ↓rq_gi_0, ↓rq_gi_S, ↓rq_gl_0, ↓rq_gl_S, ↓rq_gr_0, ↓rq_gr_S, ↓rq_s1_0, ↓rq_s1_1, ↓rq_s1_S, ↓rq_s2_0, ↓rq_s2_1, ↓rq_s2_S, ↓rq_nl_n, ↓rq_nl_i, ↓rq_nl_l, ↓rq_nl_r, ↓rq_i1_s, ↓rq_l1_s, ↓r1_s, ↓rq_q1_s, ↓rq_i2_s, ↓rq_l2_s, ↓rq_il_s, ↓rq_d0_s, ↓rq_d1_i, ↓rq_d1_r, ↓rq_d2_l, ↓rq_d2_ii, ↓rq_d2_ir, ↓px_pop, ↓px_sp, ↓px_rd, ↓px_rf, ↓pn_xf, ↓rq_pt_0, ↓rq_pt_1, ↓rq_pt_2, ↓rq_pt_3, ↓px_sw, ↓pn_SW, ↓px_ma, ↓reduceIte, Nat.reduceEqDiff, Nat.reduceAdd, Nat.reduceSub, ↓Option.toList_some, ↓Option.toList_none, ↓List.cons_append, ↓List.nil_append, ↓kI_s, ↓kJ_s, ↓kN_s, ↓kO_s, ↓kZ_s, ↓kE_s, ↓an_rfl, ↓bt1 n00, ↓bt2 n00, ↓bf1 n10, ↓bf2 n10, ↓an_sz0, ↓an_sz1, ↓an_sz2, ↓an_sz3, ↓an_sz4, ↓an_ri, ↓an_rb0, ↓an_rb1, ↓an_b0, ↓an_b1, true_and, ↓ai_0s, ↓al_0s, ↓av_0s, ↓aq_0s, ↓ai_1s, ↓al_1s, ↓av_1s, ↓aq_1s, ↓ai_2s, ↓al_2s, ↓av_2s, ↓aq_2s, ↓ai_3s, ↓al_3s, ↓av_3s, ↓aq_3s, ↓ai_4s, ↓al_4s, ↓av_4s, ↓aq_4s, ↓ai_5s, ↓al_5s, ↓av_5s, ↓aq_5s, ↓ai_6s, ↓al_6s, ↓av_6s, ↓aq_6s, ↓ai_7s, ↓al_7s, ↓av_7s, ↓aq_7s, ↓an_l5, ↓bk_12049]
  rw [oW_some] at hs
  exact hs
set_option maxHeartbeats 4000000 in
set_option maxRecDepth 100000 in
theorem mf_12049 {tab : px_T} (hn : px_nd tab) {h : Nat} (hh : 2 ≤ h) : px_Ok tab pn_i12049 h (Sg_12049 (f_12049 tab)) := by
  refine px_mth hn (by decide +kernel) (fun av σ k hS => ?_) (fun C hT hC av σ k hS => ?_)
  · obtain ⟨x0, av0, e0, h0⟩ := av_0p hS
    obtain ⟨x1, av1, e1, h1⟩ := ai_1p h0
    obtain ⟨x2, av2, e2, h2⟩ := ai_2p h1
    obtain ⟨x3, av3, e3, h3⟩ := ai_3p h2
    obtain ⟨ez, hs⟩ := h3
    subst ez
    subst e3
    subst e2
    subst e1
    subst e0
    exact Nat.le_of_ble_eq_true rfl
  · obtain ⟨x0, av0, e0, h0⟩ := av_0p hS
    obtain ⟨x1, av1, e1, h1⟩ := ai_1p h0
    obtain ⟨x2, av2, e2, h2⟩ := ai_2p h1
    obtain ⟨x3, av3, e3, h3⟩ := ai_3p h2
    obtain ⟨ez, hs⟩ := h3
    subst ez
    subst e3
    subst e2
    subst e1
    subst e0
    subst hT
    show px_W C k 0 [some (.inr (.inr (some x0))), some (.inl x1), some (.inl x2), some (.inl x3), none] [] σ
    refine px_runH (h - 1) ck_12049 [(12055, Sg_12055 (f_12055 (px_tb C)))] [(29, kp_12049_29 (fun τ => oW (f_12049_29 (px_tb C) τ) (fun q => k (some (.inl q.1)) q.2))), (49, kp_12049_49 (fun y0 y1 y3 y4 τ => oW (f_12049_49 (px_tb C) y0 y1 y3 y4 τ) (fun q => k (some (.inl q.1)) q.2)))] 80 5 (some .int) rfl rfl hC (px_sp1 (mf_12055 hn (by omega)) px_nosp) (by omega) (px_cut1 (kq_12049_29 (fun τ hq => by exact rl_12049_29 hn (by omega) hC  hq)) (px_cut1 (kq_12049_49 (fun y0 y1 y3 y4 τ hq => by exact rl_12049_49 hn (by omega) hC (y4, τ) hq)) px_nocut)) (fun G Jf hG hJf => ?_)
    unfold f_12049 at hs
    obtain ⟨r1, hc0, hs⟩ := oW_bx hs
    by_cases hc1 : r1 = nI 0
    · replace hs := oW_t hs hc1
      simp (implicitDefEqProofs := false) only [↓hG, ↓hJf, ↓px_vc, ↓px_ex, ↓px_jp, ↓rq_gi_0, ↓rq_gi_S, ↓rq_gl_0, ↓rq_gl_S, ↓rq_gr_0, ↓rq_gr_S, ↓rq_s1_0, ↓rq_s1_1, ↓rq_s1_S, ↓rq_s2_0, ↓rq_s2_1, ↓rq_s2_S, ↓rq_nl_n, ↓rq_nl_i, ↓rq_nl_l, ↓rq_nl_r, ↓rq_i1_s, ↓rq_l1_s, ↓r1_s, ↓rq_q1_s, ↓rq_i2_s, ↓rq_l2_s, ↓rq_il_s, ↓rq_d0_s, ↓rq_d1_i, ↓rq_d1_r, ↓rq_d2_l, ↓rq_d2_ii, ↓rq_d2_ir, ↓px_pop, ↓px_sp, ↓px_rd, ↓px_rf, ↓pn_xf, ↓rq_pt_0, ↓rq_pt_1, ↓rq_pt_2, ↓rq_pt_3, ↓px_sw, ↓pn_SW, ↓px_ma, ↓reduceIte, Nat.reduceEqDiff, Nat.reduceAdd, Nat.reduceSub, ↓Option.toList_some, ↓Option.toList_none, ↓List.cons_append, ↓List.nil_append, ↓kI_s, ↓kJ_s, ↓kN_s, ↓kO_s, ↓kZ_s, ↓kE_s, ↓an_rfl, ↓bt1 n00, ↓bt2 n00, ↓bf1 n10, ↓bf2 n10, ↓an_sz0, ↓an_sz1, ↓an_sz2, ↓an_sz3, ↓an_sz4, ↓an_ri, ↓an_rb0, ↓an_rb1, ↓an_b0, ↓an_b1, true_and, ↓ai_0s, ↓al_0s, ↓av_0s, ↓aq_0s, ↓ai_1s, ↓al_1s, ↓av_1s, ↓aq_1s, ↓ai_2s, ↓al_2s, ↓av_2s, ↓aq_2s, ↓ai_3s, ↓al_3s, ↓av_3s, ↓aq_3s, ↓ai_4s, ↓al_4s, ↓av_4s, ↓aq_4s, ↓ai_5s, ↓al_5s, ↓av_5s, ↓aq_5s, ↓ai_6s, ↓al_6s, ↓av_6s, ↓aq_6s, ↓ai_7s, ↓al_7s, ↓av_7s, ↓aq_7s, ↓an_l5, ↓bk_12049, ↓Sg_12055, ↓kp_12049_29, ↓kp_12049_49, ↓oW_e hc0, ↓bt1 hc1, ↓bt2 hc1]
      rw [oW_some] at hs
      exact hs
    · replace hs := oW_f hs hc1
      by_cases hc2 : x2 < nI 0
      · replace hs := oW_t hs hc2
        simp (implicitDefEqProofs := false) only [↓hG, ↓hJf, ↓px_vc, ↓px_ex, ↓px_jp, ↓rq_gi_0, ↓rq_gi_S, ↓rq_gl_0, ↓rq_gl_S, ↓rq_gr_0, ↓rq_gr_S, ↓rq_s1_0, ↓rq_s1_1, ↓rq_s1_S, ↓rq_s2_0, ↓rq_s2_1, ↓rq_s2_S, ↓rq_nl_n, ↓rq_nl_i, ↓rq_nl_l, ↓rq_nl_r, ↓rq_i1_s, ↓rq_l1_s, ↓r1_s, ↓rq_q1_s, ↓rq_i2_s, ↓rq_l2_s, ↓rq_il_s, ↓rq_d0_s, ↓rq_d1_i, ↓rq_d1_r, ↓rq_d2_l, ↓rq_d2_ii, ↓rq_d2_ir, ↓px_pop, ↓px_sp, ↓px_rd, ↓px_rf, ↓pn_xf, ↓rq_pt_0, ↓rq_pt_1, ↓rq_pt_2, ↓rq_pt_3, ↓px_sw, ↓pn_SW, ↓px_ma, ↓reduceIte, Nat.reduceEqDiff, Nat.reduceAdd, Nat.reduceSub, ↓Option.toList_some, ↓Option.toList_none, ↓List.cons_append, ↓List.nil_append, ↓kI_s, ↓kJ_s, ↓kN_s, ↓kO_s, ↓kZ_s, ↓kE_s, ↓an_rfl, ↓bt1 n00, ↓bt2 n00, ↓bf1 n10, ↓bf2 n10, ↓an_sz0, ↓an_sz1, ↓an_sz2, ↓an_sz3, ↓an_sz4, ↓an_ri, ↓an_rb0, ↓an_rb1, ↓an_b0, ↓an_b1, true_and, ↓ai_0s, ↓al_0s, ↓av_0s, ↓aq_0s, ↓ai_1s, ↓al_1s, ↓av_1s, ↓aq_1s, ↓ai_2s, ↓al_2s, ↓av_2s, ↓aq_2s, ↓ai_3s, ↓al_3s, ↓av_3s, ↓aq_3s, ↓ai_4s, ↓al_4s, ↓av_4s, ↓aq_4s, ↓ai_5s, ↓al_5s, ↓av_5s, ↓aq_5s, ↓ai_6s, ↓al_6s, ↓av_6s, ↓aq_6s, ↓ai_7s, ↓al_7s, ↓av_7s, ↓aq_7s, ↓an_l5, ↓bk_12049, ↓Sg_12055, ↓kp_12049_29, ↓kp_12049_49, ↓oW_e hc0, ↓bf1 hc1, ↓bf2 hc1, ↓bt1 hc2, ↓bt2 hc2]
        rw [oW_some] at hs
        exact hs
      · replace hs := oW_f hs hc2
        by_cases hc3 : x2 < (nI 4)
        · replace hs := oW_t hs hc3
          by_cases hc4 : x3 < nI 0
          · replace hs := oW_t hs hc4
            simp (implicitDefEqProofs := false) only [↓hG, ↓hJf, ↓px_vc, ↓px_ex, ↓px_jp, ↓rq_gi_0, ↓rq_gi_S, ↓rq_gl_0, ↓rq_gl_S, ↓rq_gr_0, ↓rq_gr_S, ↓rq_s1_0, ↓rq_s1_1, ↓rq_s1_S, ↓rq_s2_0, ↓rq_s2_1, ↓rq_s2_S, ↓rq_nl_n, ↓rq_nl_i, ↓rq_nl_l, ↓rq_nl_r, ↓rq_i1_s, ↓rq_l1_s, ↓r1_s, ↓rq_q1_s, ↓rq_i2_s, ↓rq_l2_s, ↓rq_il_s, ↓rq_d0_s, ↓rq_d1_i, ↓rq_d1_r, ↓rq_d2_l, ↓rq_d2_ii, ↓rq_d2_ir, ↓px_pop, ↓px_sp, ↓px_rd, ↓px_rf, ↓pn_xf, ↓rq_pt_0, ↓rq_pt_1, ↓rq_pt_2, ↓rq_pt_3, ↓px_sw, ↓pn_SW, ↓px_ma, ↓reduceIte, Nat.reduceEqDiff, Nat.reduceAdd, Nat.reduceSub, ↓Option.toList_some, ↓Option.toList_none, ↓List.cons_append, ↓List.nil_append, ↓kI_s, ↓kJ_s, ↓kN_s, ↓kO_s, ↓kZ_s, ↓kE_s, ↓an_rfl, ↓bt1 n00, ↓bt2 n00, ↓bf1 n10, ↓bf2 n10, ↓an_sz0, ↓an_sz1, ↓an_sz2, ↓an_sz3, ↓an_sz4, ↓an_ri, ↓an_rb0, ↓an_rb1, ↓an_b0, ↓an_b1, true_and, ↓ai_0s, ↓al_0s, ↓av_0s, ↓aq_0s, ↓ai_1s, ↓al_1s, ↓av_1s, ↓aq_1s, ↓ai_2s, ↓al_2s, ↓av_2s, ↓aq_2s, ↓ai_3s, ↓al_3s, ↓av_3s, ↓aq_3s, ↓ai_4s, ↓al_4s, ↓av_4s, ↓aq_4s, ↓ai_5s, ↓al_5s, ↓av_5s, ↓aq_5s, ↓ai_6s, ↓al_6s, ↓av_6s, ↓aq_6s, ↓ai_7s, ↓al_7s, ↓av_7s, ↓aq_7s, ↓an_l5, ↓bk_12049, ↓Sg_12055, ↓kp_12049_29, ↓kp_12049_49, ↓oW_e hc0, ↓bf1 hc1, ↓bf2 hc1, ↓bf1 hc2, ↓bf2 hc2, ↓bt1 hc3, ↓bt2 hc3, ↓bt1 hc4, ↓bt2 hc4]
            exact hs
          · replace hs := oW_f hs hc4
            by_cases hc5 : x3 ≤ (nI 40)
            · replace hs := oW_t hs hc5
              obtain ⟨hc6, hs⟩ := oW_gx hs
              obtain ⟨n2, hc7, hs⟩ := oW_bx hs
              obtain ⟨t3, l4, hc8, hs⟩ := oW_ax hs
              obtain ⟨hc9, hs⟩ := oW_gx hs
              obtain ⟨hc10, hs⟩ := oW_gx hs
              obtain ⟨n5, hc11, hs⟩ := oW_bx hs
              obtain ⟨t6, l7, hc12, hs⟩ := oW_ax hs
              obtain ⟨hc13, hs⟩ := oW_gx hs
              obtain ⟨hc14, hs⟩ := oW_gx hs
              simp (implicitDefEqProofs := false) only [↓hG, ↓hJf, ↓px_vc, ↓px_ex, ↓px_jp, ↓rq_gi_0, ↓rq_gi_S, ↓rq_gl_0, ↓rq_gl_S, ↓rq_gr_0, ↓rq_gr_S, ↓rq_s1_0, ↓rq_s1_1, ↓rq_s1_S, ↓rq_s2_0, ↓rq_s2_1, ↓rq_s2_S, ↓rq_nl_n, ↓rq_nl_i, ↓rq_nl_l, ↓rq_nl_r, ↓rq_i1_s, ↓rq_l1_s, ↓r1_s, ↓rq_q1_s, ↓rq_i2_s, ↓rq_l2_s, ↓rq_il_s, ↓rq_d0_s, ↓rq_d1_i, ↓rq_d1_r, ↓rq_d2_l, ↓rq_d2_ii, ↓rq_d2_ir, ↓px_pop, ↓px_sp, ↓px_rd, ↓px_rf, ↓pn_xf, ↓rq_pt_0, ↓rq_pt_1, ↓rq_pt_2, ↓rq_pt_3, ↓px_sw, ↓pn_SW, ↓px_ma, ↓reduceIte, Nat.reduceEqDiff, Nat.reduceAdd, Nat.reduceSub, ↓Option.toList_some, ↓Option.toList_none, ↓List.cons_append, ↓List.nil_append, ↓kI_s, ↓kJ_s, ↓kN_s, ↓kO_s, ↓kZ_s, ↓kE_s, ↓an_rfl, ↓bt1 n00, ↓bt2 n00, ↓bf1 n10, ↓bf2 n10, ↓an_sz0, ↓an_sz1, ↓an_sz2, ↓an_sz3, ↓an_sz4, ↓an_ri, ↓an_rb0, ↓an_rb1, ↓an_b0, ↓an_b1, true_and, ↓ai_0s, ↓al_0s, ↓av_0s, ↓aq_0s, ↓ai_1s, ↓al_1s, ↓av_1s, ↓aq_1s, ↓ai_2s, ↓al_2s, ↓av_2s, ↓aq_2s, ↓ai_3s, ↓al_3s, ↓av_3s, ↓aq_3s, ↓ai_4s, ↓al_4s, ↓av_4s, ↓aq_4s, ↓ai_5s, ↓al_5s, ↓av_5s, ↓aq_5s, ↓ai_6s, ↓al_6s, ↓av_6s, ↓aq_6s, ↓ai_7s, ↓al_7s, ↓av_7s, ↓aq_7s, ↓an_l5, ↓bk_12049, ↓Sg_12055, ↓kp_12049_29, ↓kp_12049_49, ↓oW_e hc0, ↓bf1 hc1, ↓bf2 hc1, ↓bf1 hc2, ↓bf2 hc2, ↓bt1 hc3, ↓bt2 hc3, ↓bf1 hc4, ↓bf2 hc4, ↓bt1 hc5, ↓bt2 hc5, ↓an_t hc6, ↓an_rv hc6, ↓r1_e hc7, ↓av_0e hc7, ↓av_1e hc7, ↓av_2e hc7, ↓av_3e hc7, ↓ar_e hc8, ↓an_t hc9, ↓an_t hc10, ↓r1_e hc11, ↓av_0e hc11, ↓av_1e hc11, ↓av_2e hc11, ↓av_3e hc11, ↓ar_e hc12, ↓an_t hc13, ↓an_t hc14]
              exact hs
            · replace hs := oW_f hs hc5
              simp (implicitDefEqProofs := false) only [↓hG, ↓hJf, ↓px_vc, ↓px_ex, ↓px_jp, ↓rq_gi_0, ↓rq_gi_S, ↓rq_gl_0, ↓rq_gl_S, ↓rq_gr_0, ↓rq_gr_S, ↓rq_s1_0, ↓rq_s1_1, ↓rq_s1_S, ↓rq_s2_0, ↓rq_s2_1, ↓rq_s2_S, ↓rq_nl_n, ↓rq_nl_i, ↓rq_nl_l, ↓rq_nl_r, ↓rq_i1_s, ↓rq_l1_s, ↓r1_s, ↓rq_q1_s, ↓rq_i2_s, ↓rq_l2_s, ↓rq_il_s, ↓rq_d0_s, ↓rq_d1_i, ↓rq_d1_r, ↓rq_d2_l, ↓rq_d2_ii, ↓rq_d2_ir, ↓px_pop, ↓px_sp, ↓px_rd, ↓px_rf, ↓pn_xf, ↓rq_pt_0, ↓rq_pt_1, ↓rq_pt_2, ↓rq_pt_3, ↓px_sw, ↓pn_SW, ↓px_ma, ↓reduceIte, Nat.reduceEqDiff, Nat.reduceAdd, Nat.reduceSub, ↓Option.toList_some, ↓Option.toList_none, ↓List.cons_append, ↓List.nil_append, ↓kI_s, ↓kJ_s, ↓kN_s, ↓kO_s, ↓kZ_s, ↓kE_s, ↓an_rfl, ↓bt1 n00, ↓bt2 n00, ↓bf1 n10, ↓bf2 n10, ↓an_sz0, ↓an_sz1, ↓an_sz2, ↓an_sz3, ↓an_sz4, ↓an_ri, ↓an_rb0, ↓an_rb1, ↓an_b0, ↓an_b1, true_and, ↓ai_0s, ↓al_0s, ↓av_0s, ↓aq_0s, ↓ai_1s, ↓al_1s, ↓av_1s, ↓aq_1s, ↓ai_2s, ↓al_2s, ↓av_2s, ↓aq_2s, ↓ai_3s, ↓al_3s, ↓av_3s, ↓aq_3s, ↓ai_4s, ↓al_4s, ↓av_4s, ↓aq_4s, ↓ai_5s, ↓al_5s, ↓av_5s, ↓aq_5s, ↓ai_6s, ↓al_6s, ↓av_6s, ↓aq_6s, ↓ai_7s, ↓al_7s, ↓av_7s, ↓aq_7s, ↓an_l5, ↓bk_12049, ↓Sg_12055, ↓kp_12049_29, ↓kp_12049_49, ↓oW_e hc0, ↓bf1 hc1, ↓bf2 hc1, ↓bf1 hc2, ↓bf2 hc2, ↓bt1 hc3, ↓bt2 hc3, ↓bf1 hc4, ↓bf2 hc4, ↓bf1 hc5, ↓bf2 hc5]
              exact hs
        · replace hs := oW_f hs hc3
          simp (implicitDefEqProofs := false) only [↓hG, ↓hJf, ↓px_vc, ↓px_ex, ↓px_jp, ↓rq_gi_0, ↓rq_gi_S, ↓rq_gl_0, ↓rq_gl_S, ↓rq_gr_0, ↓rq_gr_S, ↓rq_s1_0, ↓rq_s1_1, ↓rq_s1_S, ↓rq_s2_0, ↓rq_s2_1, ↓rq_s2_S, ↓rq_nl_n, ↓rq_nl_i, ↓rq_nl_l, ↓rq_nl_r, ↓rq_i1_s, ↓rq_l1_s, ↓r1_s, ↓rq_q1_s, ↓rq_i2_s, ↓rq_l2_s, ↓rq_il_s, ↓rq_d0_s, ↓rq_d1_i, ↓rq_d1_r, ↓rq_d2_l, ↓rq_d2_ii, ↓rq_d2_ir, ↓px_pop, ↓px_sp, ↓px_rd, ↓px_rf, ↓pn_xf, ↓rq_pt_0, ↓rq_pt_1, ↓rq_pt_2, ↓rq_pt_3, ↓px_sw, ↓pn_SW, ↓px_ma, ↓reduceIte, Nat.reduceEqDiff, Nat.reduceAdd, Nat.reduceSub, ↓Option.toList_some, ↓Option.toList_none, ↓List.cons_append, ↓List.nil_append, ↓kI_s, ↓kJ_s, ↓kN_s, ↓kO_s, ↓kZ_s, ↓kE_s, ↓an_rfl, ↓bt1 n00, ↓bt2 n00, ↓bf1 n10, ↓bf2 n10, ↓an_sz0, ↓an_sz1, ↓an_sz2, ↓an_sz3, ↓an_sz4, ↓an_ri, ↓an_rb0, ↓an_rb1, ↓an_b0, ↓an_b1, true_and, ↓ai_0s, ↓al_0s, ↓av_0s, ↓aq_0s, ↓ai_1s, ↓al_1s, ↓av_1s, ↓aq_1s, ↓ai_2s, ↓al_2s, ↓av_2s, ↓aq_2s, ↓ai_3s, ↓al_3s, ↓av_3s, ↓aq_3s, ↓ai_4s, ↓al_4s, ↓av_4s, ↓aq_4s, ↓ai_5s, ↓al_5s, ↓av_5s, ↓aq_5s, ↓ai_6s, ↓al_6s, ↓av_6s, ↓aq_6s, ↓ai_7s, ↓al_7s, ↓av_7s, ↓aq_7s, ↓an_l5, ↓bk_12049, ↓Sg_12055, ↓kp_12049_29, ↓kp_12049_49, ↓oW_e hc0, ↓bf1 hc1, ↓bf2 hc1, ↓bf1 hc2, ↓bf2 hc2, ↓bf1 hc3, ↓bf2 hc3]
          rw [oW_some] at hs
          exact hs
def Sg_12068 (g : px_M → Int32 → Int64 → Option (Int64)) : px_S := fun av σ k => ai_0 av (fun x0 av => al_1 av (fun x1 av => av = [] ∧ oW (g σ x0 x1) (fun r => k (some (.inr (.inl r))) σ)))
/-- NoThree.cutTo(IJ)J -/
noncomputable def f_12068 (tab : px_T) (σ : px_M) (x0 : Int32) (x1 : Int64) : Option (Int64) := if x0 = nI 0 then (some ((((x1).toInt32).toInt8.toInt32).toInt64)) else (if x0 = nI 1 then (some ((((x1).toInt32).toInt16.toInt32).toInt64)) else (if x0 = nI 2 then (some (((x1).toInt32).toInt64)) else (some (x1))))
set_option maxHeartbeats 4000000 in
set_option maxRecDepth 100000 in
theorem mf_12068 {tab : px_T} (hn : px_nd tab) {h : Nat} (hh : 1 ≤ h) : px_Ok tab pn_i12068 h (Sg_12068 (f_12068 tab)) := by
  refine px_mth hn (by decide +kernel) (fun av σ k hS => ?_) (fun C hT hC av σ k hS => ?_)
  · obtain ⟨x0, av0, e0, h0⟩ := ai_0p hS
    obtain ⟨x1, av1, e1, h1⟩ := al_1p h0
    obtain ⟨ez, hs⟩ := h1
    subst ez
    subst e1
    subst e0
    exact Nat.le_of_ble_eq_true rfl
  · obtain ⟨x0, av0, e0, h0⟩ := ai_0p hS
    obtain ⟨x1, av1, e1, h1⟩ := al_1p h0
    obtain ⟨ez, hs⟩ := h1
    subst ez
    subst e1
    subst e0
    subst hT
    show px_W C k 0 [some (.inl x0), some (.inr (.inl x1)), none] [] σ
    refine px_runH (h - 1) ck_12068 [] [] 80 3 (some .long) rfl rfl hC px_nosp (by omega) px_nocut (fun G Jf hG hJf => ?_)
    unfold f_12068 at hs
    by_cases hc0 : x0 = nI 0
    · replace hs := oW_t hs hc0
      simp (implicitDefEqProofs := false) only [↓hG, ↓hJf, ↓px_vc, ↓px_ex, ↓px_jp, ↓rq_gi_0, ↓rq_gi_S, ↓rq_gl_0, ↓rq_gl_S, ↓rq_gr_0, ↓rq_gr_S, ↓rq_s1_0, ↓rq_s1_1, ↓rq_s1_S, ↓rq_s2_0, ↓rq_s2_1, ↓rq_s2_S, ↓rq_nl_n, ↓rq_nl_i, ↓rq_nl_l, ↓rq_nl_r, ↓rq_i1_s, ↓rq_l1_s, ↓r1_s, ↓rq_q1_s, ↓rq_i2_s, ↓rq_l2_s, ↓rq_il_s, ↓rq_d0_s, ↓rq_d1_i, ↓rq_d1_r, ↓rq_d2_l, ↓rq_d2_ii, ↓rq_d2_ir, ↓px_pop, ↓px_sp, ↓px_rd, ↓px_rf, ↓pn_xf, ↓rq_pt_0, ↓rq_pt_1, ↓rq_pt_2, ↓rq_pt_3, ↓px_sw, ↓pn_SW, ↓px_ma, ↓reduceIte, Nat.reduceEqDiff, Nat.reduceAdd, Nat.reduceSub, ↓Option.toList_some, ↓Option.toList_none, ↓List.cons_append, ↓List.nil_append, ↓kI_s, ↓kJ_s, ↓kN_s, ↓kO_s, ↓kZ_s, ↓kE_s, ↓an_rfl, ↓bt1 n00, ↓bt2 n00, ↓bf1 n10, ↓bf2 n10, ↓an_sz0, ↓an_sz1, ↓an_sz2, ↓an_sz3, ↓an_sz4, ↓an_ri, ↓an_rb0, ↓an_rb1, ↓an_b0, ↓an_b1, true_and, ↓ai_0s, ↓al_0s, ↓av_0s, ↓aq_0s, ↓ai_1s, ↓al_1s, ↓av_1s, ↓aq_1s, ↓ai_2s, ↓al_2s, ↓av_2s, ↓aq_2s, ↓ai_3s, ↓al_3s, ↓av_3s, ↓aq_3s, ↓ai_4s, ↓al_4s, ↓av_4s, ↓aq_4s, ↓ai_5s, ↓al_5s, ↓av_5s, ↓aq_5s, ↓ai_6s, ↓al_6s, ↓av_6s, ↓aq_6s, ↓ai_7s, ↓al_7s, ↓av_7s, ↓aq_7s, ↓an_l3, ↓bk_12068, ↓bt1 hc0, ↓bt2 hc0]
      rw [oW_some] at hs
      exact hs
    · replace hs := oW_f hs hc0
      by_cases hc1 : x0 = nI 1
      · replace hs := oW_t hs hc1
        simp (implicitDefEqProofs := false) only [↓hG, ↓hJf, ↓px_vc, ↓px_ex, ↓px_jp, ↓rq_gi_0, ↓rq_gi_S, ↓rq_gl_0, ↓rq_gl_S, ↓rq_gr_0, ↓rq_gr_S, ↓rq_s1_0, ↓rq_s1_1, ↓rq_s1_S, ↓rq_s2_0, ↓rq_s2_1, ↓rq_s2_S, ↓rq_nl_n, ↓rq_nl_i, ↓rq_nl_l, ↓rq_nl_r, ↓rq_i1_s, ↓rq_l1_s, ↓r1_s, ↓rq_q1_s, ↓rq_i2_s, ↓rq_l2_s, ↓rq_il_s, ↓rq_d0_s, ↓rq_d1_i, ↓rq_d1_r, ↓rq_d2_l, ↓rq_d2_ii, ↓rq_d2_ir, ↓px_pop, ↓px_sp, ↓px_rd, ↓px_rf, ↓pn_xf, ↓rq_pt_0, ↓rq_pt_1, ↓rq_pt_2, ↓rq_pt_3, ↓px_sw, ↓pn_SW, ↓px_ma, ↓reduceIte, Nat.reduceEqDiff, Nat.reduceAdd, Nat.reduceSub, ↓Option.toList_some, ↓Option.toList_none, ↓List.cons_append, ↓List.nil_append, ↓kI_s, ↓kJ_s, ↓kN_s, ↓kO_s, ↓kZ_s, ↓kE_s, ↓an_rfl, ↓bt1 n00, ↓bt2 n00, ↓bf1 n10, ↓bf2 n10, ↓an_sz0, ↓an_sz1, ↓an_sz2, ↓an_sz3, ↓an_sz4, ↓an_ri, ↓an_rb0, ↓an_rb1, ↓an_b0, ↓an_b1, true_and, ↓ai_0s, ↓al_0s, ↓av_0s, ↓aq_0s, ↓ai_1s, ↓al_1s, ↓av_1s, ↓aq_1s, ↓ai_2s, ↓al_2s, ↓av_2s, ↓aq_2s, ↓ai_3s, ↓al_3s, ↓av_3s, ↓aq_3s, ↓ai_4s, ↓al_4s, ↓av_4s, ↓aq_4s, ↓ai_5s, ↓al_5s, ↓av_5s, ↓aq_5s, ↓ai_6s, ↓al_6s, ↓av_6s, ↓aq_6s, ↓ai_7s, ↓al_7s, ↓av_7s, ↓aq_7s, ↓an_l3, ↓bk_12068, ↓bf1 hc0, ↓bf2 hc0, ↓bt1 hc1, ↓bt2 hc1]
        rw [oW_some] at hs
        exact hs
      · replace hs := oW_f hs hc1
        by_cases hc2 : x0 = nI 2
        · replace hs := oW_t hs hc2
          simp (implicitDefEqProofs := false) only [↓hG, ↓hJf, ↓px_vc, ↓px_ex, ↓px_jp, ↓rq_gi_0, ↓rq_gi_S, ↓rq_gl_0, ↓rq_gl_S, ↓rq_gr_0, ↓rq_gr_S, ↓rq_s1_0, ↓rq_s1_1, ↓rq_s1_S, ↓rq_s2_0, ↓rq_s2_1, ↓rq_s2_S, ↓rq_nl_n, ↓rq_nl_i, ↓rq_nl_l, ↓rq_nl_r, ↓rq_i1_s, ↓rq_l1_s, ↓r1_s, ↓rq_q1_s, ↓rq_i2_s, ↓rq_l2_s, ↓rq_il_s, ↓rq_d0_s, ↓rq_d1_i, ↓rq_d1_r, ↓rq_d2_l, ↓rq_d2_ii, ↓rq_d2_ir, ↓px_pop, ↓px_sp, ↓px_rd, ↓px_rf, ↓pn_xf, ↓rq_pt_0, ↓rq_pt_1, ↓rq_pt_2, ↓rq_pt_3, ↓px_sw, ↓pn_SW, ↓px_ma, ↓reduceIte, Nat.reduceEqDiff, Nat.reduceAdd, Nat.reduceSub, ↓Option.toList_some, ↓Option.toList_none, ↓List.cons_append, ↓List.nil_append, ↓kI_s, ↓kJ_s, ↓kN_s, ↓kO_s, ↓kZ_s, ↓kE_s, ↓an_rfl, ↓bt1 n00, ↓bt2 n00, ↓bf1 n10, ↓bf2 n10, ↓an_sz0, ↓an_sz1, ↓an_sz2, ↓an_sz3, ↓an_sz4, ↓an_ri, ↓an_rb0, ↓an_rb1, ↓an_b0, ↓an_b1, true_and, ↓ai_0s, ↓al_0s, ↓av_0s, ↓aq_0s, ↓ai_1s, ↓al_1s, ↓av_1s, ↓aq_1s, ↓ai_2s, ↓al_2s, ↓av_2s, ↓aq_2s, ↓ai_3s, ↓al_3s, ↓av_3s, ↓aq_3s, ↓ai_4s, ↓al_4s, ↓av_4s, ↓aq_4s, ↓ai_5s, ↓al_5s, ↓av_5s, ↓aq_5s, ↓ai_6s, ↓al_6s, ↓av_6s, ↓aq_6s, ↓ai_7s, ↓al_7s, ↓av_7s, ↓aq_7s, ↓an_l3, ↓bk_12068, ↓bf1 hc0, ↓bf2 hc0, ↓bf1 hc1, ↓bf2 hc1, ↓bt1 hc2, ↓bt2 hc2]
          rw [oW_some] at hs
          exact hs
        · replace hs := oW_f hs hc2
          simp (implicitDefEqProofs := false) only [↓hG, ↓hJf, ↓px_vc, ↓px_ex, ↓px_jp, ↓rq_gi_0, ↓rq_gi_S, ↓rq_gl_0, ↓rq_gl_S, ↓rq_gr_0, ↓rq_gr_S, ↓rq_s1_0, ↓rq_s1_1, ↓rq_s1_S, ↓rq_s2_0, ↓rq_s2_1, ↓rq_s2_S, ↓rq_nl_n, ↓rq_nl_i, ↓rq_nl_l, ↓rq_nl_r, ↓rq_i1_s, ↓rq_l1_s, ↓r1_s, ↓rq_q1_s, ↓rq_i2_s, ↓rq_l2_s, ↓rq_il_s, ↓rq_d0_s, ↓rq_d1_i, ↓rq_d1_r, ↓rq_d2_l, ↓rq_d2_ii, ↓rq_d2_ir, ↓px_pop, ↓px_sp, ↓px_rd, ↓px_rf, ↓pn_xf, ↓rq_pt_0, ↓rq_pt_1, ↓rq_pt_2, ↓rq_pt_3, ↓px_sw, ↓pn_SW, ↓px_ma, ↓reduceIte, Nat.reduceEqDiff, Nat.reduceAdd, Nat.reduceSub, ↓Option.toList_some, ↓Option.toList_none, ↓List.cons_append, ↓List.nil_append, ↓kI_s, ↓kJ_s, ↓kN_s, ↓kO_s, ↓kZ_s, ↓kE_s, ↓an_rfl, ↓bt1 n00, ↓bt2 n00, ↓bf1 n10, ↓bf2 n10, ↓an_sz0, ↓an_sz1, ↓an_sz2, ↓an_sz3, ↓an_sz4, ↓an_ri, ↓an_rb0, ↓an_rb1, ↓an_b0, ↓an_b1, true_and, ↓ai_0s, ↓al_0s, ↓av_0s, ↓aq_0s, ↓ai_1s, ↓al_1s, ↓av_1s, ↓aq_1s, ↓ai_2s, ↓al_2s, ↓av_2s, ↓aq_2s, ↓ai_3s, ↓al_3s, ↓av_3s, ↓aq_3s, ↓ai_4s, ↓al_4s, ↓av_4s, ↓aq_4s, ↓ai_5s, ↓al_5s, ↓av_5s, ↓aq_5s, ↓ai_6s, ↓al_6s, ↓av_6s, ↓aq_6s, ↓ai_7s, ↓al_7s, ↓av_7s, ↓aq_7s, ↓an_l3, ↓bk_12068, ↓bf1 hc0, ↓bf2 hc0, ↓bf1 hc1, ↓bf2 hc1, ↓bf1 hc2, ↓bf2 hc2]
          rw [oW_some] at hs
          exact hs
def Sg_12067 (g : px_M → Nat → Int32 → Int32 → Int64 → Option (px_M)) : px_S := fun av σ k => av_0 av (fun x0 av => ai_1 av (fun x1 av => ai_2 av (fun x2 av => al_3 av (fun x3 av => av = [] ∧ oW (g σ x0 x1 x2 x3) (fun τ => k none τ)))))
/-- NoThree.putNumber(IIJ)V -/
noncomputable def f_12067_8 (tab : px_T) (σ : px_M) (x0 : Nat) (x1 : Int32) (x3 : Int64) (x5 : Int32) : Option (px_M) := if x5 < nI 0 then (some (σ)) else (gd (px_obj (px_lay tab x0) 12) ((((σ).2.2 x0 13)).bind fun n1 => oA (px_lay tab n1) fun t2 l3 => gd (t2 < 12) (if (nI l3) ≤ x5 then (some (σ)) else ((((σ).2.2 x0 14)).bind fun n4 => oA (px_lay tab n4) fun t5 l6 => gd (t5 = 0 ∨ t5 = 11) (gd (vp_in x1 l6) ((f_12068 tab σ ((px_av t5 σ n4 (x1).toNatClampNeg)) x3).bind fun r7 => gd (t2 = 3) (gd (vp_in x5 l3) (some ((px_wl σ n1 (x5).toNatClampNeg r7))))))))))
noncomputable def f_12067 (tab : px_T) (σ : px_M) (x0 : Nat) (x1 : Int32) (x2 : Int32) (x3 : Int64) : Option (px_M) := f_12067_8 tab σ x0 x1 x3 (((x1 * (nI 40)) + x2))
def kp_12067_8 (Q : Nat → Int32 → Int64 → Int32 → px_M → Prop) : px_P := fun ls st τ => st = [] ∧ kN ls (fun x0 ls => kI ls (fun x1 ls => kZ ls (fun ls => kJ ls (fun x3 ls => kI ls (fun x5 ls => kE ls (Q x0 x1 x3 x5 τ))))))
theorem kq_12067_8 {C : px_C} {k : Option px_V → px_M → Prop} {Q : Nat → Int32 → Int64 → Int32 → px_M → Prop} (H : ∀ (x0 : Nat) (x1 : Int32) (x3 : Int64) (x5 : Int32) (τ : px_M), Q x0 x1 x3 x5 τ → ∀ (z2 : Option px_V), px_W C k 8 [some (.inr (.inr (some x0))), some (.inl x1), z2, some (.inr (.inl x3)), none, some (.inl x5)] [] τ) : ∀ ls st τ, kp_12067_8 Q ls st τ → px_W C k 8 ls st τ := by
  intro ls st τ hz
  obtain ⟨ez, h0⟩ := hz
  obtain ⟨x0, l0, e0, h1⟩ := kN_sp h0
  obtain ⟨x1, l1, e1, h2⟩ := kI_sp h1
  obtain ⟨z2, l2, e2, h3⟩ := kZ_sp h2
  obtain ⟨x3, l3, e3, h4⟩ := kJ_sp h3
  obtain ⟨x5, l4, e4, h5⟩ := kI_sp h4
  obtain ⟨ey, hy⟩ := kE_sp h5
  subst ez
  subst ey
  subst e4
  subst e3
  subst e2
  subst e1
  subst e0
  exact H x0 x1 x3 x5 τ hy z2
set_option maxHeartbeats 4000000 in
set_option maxRecDepth 100000 in
theorem rl_12067_8 {C : px_C} (hn : px_nd (px_tb C)) {h : Nat} (hh : 2 ≤ h) (hC : px_ok C pn_i12067 h) {k : Option px_V → px_M → Prop} {x0 : Nat} {x1 : Int32} {x3 : Int64} {x5 : Int32} {σ : px_M} (hs : oW (f_12067_8 (px_tb C) σ x0 x1 x3 x5) (fun τ => k none τ)) : ∀ (z2 : Option px_V), px_W C k 8 [some (.inr (.inr (some x0))), some (.inl x1), z2, some (.inr (.inl x3)), none, some (.inl x5)] [] σ := by
  intro z2
  refine px_runH (h - 1) ck_12067 [(12068, Sg_12068 (f_12068 (px_tb C)))] [] 80 6 none rfl rfl hC (px_sp1 (mf_12068 hn (by omega)) px_nosp) (by omega) px_nocut (fun G Jf hG hJf => ?_)
  unfold f_12067_8 at hs
  by_cases hc0 : x5 < nI 0
  · replace hs := oW_t hs hc0
    simp (implicitDefEqProofs := false) only [↓hG, ↓hJf, ↓px_vc, ↓px_ex, ↓px_jp, ↓rq_gi_0, ↓rq_gi_S, ↓rq_gl_0, ↓rq_gl_S, ↓rq_gr_0, ↓rq_gr_S, ↓rq_s1_0, ↓rq_s1_1, ↓rq_s1_S, ↓rq_s2_0, ↓rq_s2_1, ↓rq_s2_S, ↓rq_nl_n, ↓rq_nl_i, ↓rq_nl_l, ↓rq_nl_r, ↓rq_i1_s, ↓rq_l1_s, ↓r1_s, ↓rq_q1_s, ↓rq_i2_s, ↓rq_l2_s, ↓rq_il_s, ↓rq_d0_s, ↓rq_d1_i, ↓rq_d1_r, ↓rq_d2_l, ↓rq_d2_ii, ↓rq_d2_ir, ↓px_pop, ↓px_sp, ↓px_rd, ↓px_rf, ↓pn_xf, ↓rq_pt_0, ↓rq_pt_1, ↓rq_pt_2, ↓rq_pt_3, ↓px_sw, ↓pn_SW, ↓px_ma, ↓reduceIte, Nat.reduceEqDiff, Nat.reduceAdd, Nat.reduceSub, ↓Option.toList_some, ↓Option.toList_none, ↓List.cons_append, ↓List.nil_append, ↓kI_s, ↓kJ_s, ↓kN_s, ↓kO_s, ↓kZ_s, ↓kE_s, ↓an_rfl, ↓bt1 n00, ↓bt2 n00, ↓bf1 n10, ↓bf2 n10, ↓an_sz0, ↓an_sz1, ↓an_sz2, ↓an_sz3, ↓an_sz4, ↓an_ri, ↓an_rb0, ↓an_rb1, ↓an_b0, ↓an_b1, true_and, ↓ai_0s, ↓al_0s, ↓av_0s, ↓aq_0s, ↓ai_1s, ↓al_1s, ↓av_1s, ↓aq_1s, ↓ai_2s, ↓al_2s, ↓av_2s, ↓aq_2s, ↓ai_3s, ↓al_3s, ↓av_3s, ↓aq_3s, ↓ai_4s, ↓al_4s, ↓av_4s, ↓aq_4s, ↓ai_5s, ↓al_5s, ↓av_5s, ↓aq_5s, ↓ai_6s, ↓al_6s, ↓av_6s, ↓aq_6s, ↓ai_7s, ↓al_7s, ↓av_7s, ↓aq_7s, ↓an_l6, ↓bk_12067, ↓Sg_12068, ↓bt1 hc0, ↓bt2 hc0]
    rw [oW_some] at hs
    exact hs
  · replace hs := oW_f hs hc0
    obtain ⟨hc1, hs⟩ := oW_gx hs
    obtain ⟨n1, hc2, hs⟩ := oW_bx hs
    obtain ⟨t2, l3, hc3, hs⟩ := oW_ax hs
    obtain ⟨hc4, hs⟩ := oW_gx hs
    by_cases hc5 : (nI l3) ≤ x5
    · replace hs := oW_t hs hc5
      simp (implicitDefEqProofs := false) only [↓hG, ↓hJf, ↓px_vc, ↓px_ex, ↓px_jp, ↓rq_gi_0, ↓rq_gi_S, ↓rq_gl_0, ↓rq_gl_S, ↓rq_gr_0, ↓rq_gr_S, ↓rq_s1_0, ↓rq_s1_1, ↓rq_s1_S, ↓rq_s2_0, ↓rq_s2_1, ↓rq_s2_S, ↓rq_nl_n, ↓rq_nl_i, ↓rq_nl_l, ↓rq_nl_r, ↓rq_i1_s, ↓rq_l1_s, ↓r1_s, ↓rq_q1_s, ↓rq_i2_s, ↓rq_l2_s, ↓rq_il_s, ↓rq_d0_s, ↓rq_d1_i, ↓rq_d1_r, ↓rq_d2_l, ↓rq_d2_ii, ↓rq_d2_ir, ↓px_pop, ↓px_sp, ↓px_rd, ↓px_rf, ↓pn_xf, ↓rq_pt_0, ↓rq_pt_1, ↓rq_pt_2, ↓rq_pt_3, ↓px_sw, ↓pn_SW, ↓px_ma, ↓reduceIte, Nat.reduceEqDiff, Nat.reduceAdd, Nat.reduceSub, ↓Option.toList_some, ↓Option.toList_none, ↓List.cons_append, ↓List.nil_append, ↓kI_s, ↓kJ_s, ↓kN_s, ↓kO_s, ↓kZ_s, ↓kE_s, ↓an_rfl, ↓bt1 n00, ↓bt2 n00, ↓bf1 n10, ↓bf2 n10, ↓an_sz0, ↓an_sz1, ↓an_sz2, ↓an_sz3, ↓an_sz4, ↓an_ri, ↓an_rb0, ↓an_rb1, ↓an_b0, ↓an_b1, true_and, ↓ai_0s, ↓al_0s, ↓av_0s, ↓aq_0s, ↓ai_1s, ↓al_1s, ↓av_1s, ↓aq_1s, ↓ai_2s, ↓al_2s, ↓av_2s, ↓aq_2s, ↓ai_3s, ↓al_3s, ↓av_3s, ↓aq_3s, ↓ai_4s, ↓al_4s, ↓av_4s, ↓aq_4s, ↓ai_5s, ↓al_5s, ↓av_5s, ↓aq_5s, ↓ai_6s, ↓al_6s, ↓av_6s, ↓aq_6s, ↓ai_7s, ↓al_7s, ↓av_7s, ↓aq_7s, ↓an_l6, ↓bk_12067, ↓Sg_12068, ↓bf1 hc0, ↓bf2 hc0, ↓an_t hc1, ↓an_rv hc1, ↓r1_e hc2, ↓av_0e hc2, ↓av_1e hc2, ↓av_2e hc2, ↓av_3e hc2, ↓ar_e hc3, ↓an_t hc4, ↓bt1 hc5, ↓bt2 hc5]
      rw [oW_some] at hs
      exact hs
    · replace hs := oW_f hs hc5
      obtain ⟨n4, hc6, hs⟩ := oW_bx hs
      obtain ⟨t5, l6, hc7, hs⟩ := oW_ax hs
      obtain ⟨hc8, hs⟩ := oW_gx hs
      obtain ⟨hc9, hs⟩ := oW_gx hs
      obtain ⟨r7, hc10, hs⟩ := oW_bx hs
      obtain ⟨hc11, hs⟩ := oW_gx hs
      obtain ⟨hc12, hs⟩ := oW_gx hs
      simp (implicitDefEqProofs := false) only [↓hG, ↓hJf, ↓px_vc, ↓px_ex, ↓px_jp, ↓rq_gi_0, ↓rq_gi_S, ↓rq_gl_0, ↓rq_gl_S, ↓rq_gr_0, ↓rq_gr_S, ↓rq_s1_0, ↓rq_s1_1, ↓rq_s1_S, ↓rq_s2_0, ↓rq_s2_1, ↓rq_s2_S, ↓rq_nl_n, ↓rq_nl_i, ↓rq_nl_l, ↓rq_nl_r, ↓rq_i1_s, ↓rq_l1_s, ↓r1_s, ↓rq_q1_s, ↓rq_i2_s, ↓rq_l2_s, ↓rq_il_s, ↓rq_d0_s, ↓rq_d1_i, ↓rq_d1_r, ↓rq_d2_l, ↓rq_d2_ii, ↓rq_d2_ir, ↓px_pop, ↓px_sp, ↓px_rd, ↓px_rf, ↓pn_xf, ↓rq_pt_0, ↓rq_pt_1, ↓rq_pt_2, ↓rq_pt_3, ↓px_sw, ↓pn_SW, ↓px_ma, ↓reduceIte, Nat.reduceEqDiff, Nat.reduceAdd, Nat.reduceSub, ↓Option.toList_some, ↓Option.toList_none, ↓List.cons_append, ↓List.nil_append, ↓kI_s, ↓kJ_s, ↓kN_s, ↓kO_s, ↓kZ_s, ↓kE_s, ↓an_rfl, ↓bt1 n00, ↓bt2 n00, ↓bf1 n10, ↓bf2 n10, ↓an_sz0, ↓an_sz1, ↓an_sz2, ↓an_sz3, ↓an_sz4, ↓an_ri, ↓an_rb0, ↓an_rb1, ↓an_b0, ↓an_b1, true_and, ↓ai_0s, ↓al_0s, ↓av_0s, ↓aq_0s, ↓ai_1s, ↓al_1s, ↓av_1s, ↓aq_1s, ↓ai_2s, ↓al_2s, ↓av_2s, ↓aq_2s, ↓ai_3s, ↓al_3s, ↓av_3s, ↓aq_3s, ↓ai_4s, ↓al_4s, ↓av_4s, ↓aq_4s, ↓ai_5s, ↓al_5s, ↓av_5s, ↓aq_5s, ↓ai_6s, ↓al_6s, ↓av_6s, ↓aq_6s, ↓ai_7s, ↓al_7s, ↓av_7s, ↓aq_7s, ↓an_l6, ↓bk_12067, ↓Sg_12068, ↓bf1 hc0, ↓bf2 hc0, ↓an_t hc1, ↓an_rv hc1, ↓r1_e hc2, ↓av_0e hc2, ↓av_1e hc2, ↓av_2e hc2, ↓av_3e hc2, ↓ar_e hc3, ↓an_t hc4, ↓bf1 hc5, ↓bf2 hc5, ↓r1_e hc6, ↓av_0e hc6, ↓av_1e hc6, ↓av_2e hc6, ↓av_3e hc6, ↓ar_e hc7, ↓an_t hc8, ↓an_t hc9, ↓oW_e hc10, ↓an_t hc11, ↓an_t hc12]
      rw [oW_some] at hs
      exact hs
set_option maxHeartbeats 4000000 in
set_option maxRecDepth 100000 in
theorem mf_12067 {tab : px_T} (hn : px_nd tab) {h : Nat} (hh : 2 ≤ h) : px_Ok tab pn_i12067 h (Sg_12067 (f_12067 tab)) := by
  refine px_mth hn (by decide +kernel) (fun av σ k hS => ?_) (fun C hT hC av σ k hS => ?_)
  · obtain ⟨x0, av0, e0, h0⟩ := av_0p hS
    obtain ⟨x1, av1, e1, h1⟩ := ai_1p h0
    obtain ⟨x2, av2, e2, h2⟩ := ai_2p h1
    obtain ⟨x3, av3, e3, h3⟩ := al_3p h2
    obtain ⟨ez, hs⟩ := h3
    subst ez
    subst e3
    subst e2
    subst e1
    subst e0
    exact Nat.le_of_ble_eq_true rfl
  · obtain ⟨x0, av0, e0, h0⟩ := av_0p hS
    obtain ⟨x1, av1, e1, h1⟩ := ai_1p h0
    obtain ⟨x2, av2, e2, h2⟩ := ai_2p h1
    obtain ⟨x3, av3, e3, h3⟩ := al_3p h2
    obtain ⟨ez, hs⟩ := h3
    subst ez
    subst e3
    subst e2
    subst e1
    subst e0
    subst hT
    show px_W C k 0 [some (.inr (.inr (some x0))), some (.inl x1), some (.inl x2), some (.inr (.inl x3)), none, none] [] σ
    refine px_runH (h - 1) ck_12067 [] [(8, kp_12067_8 (fun y0 y1 y3 y5 τ => oW (f_12067_8 (px_tb C) τ y0 y1 y3 y5) (fun τ => k none τ)))] 80 6 none rfl rfl hC px_nosp (by omega) (px_cut1 (kq_12067_8 (fun y0 y1 y3 y5 τ hq => by exact rl_12067_8 hn (by omega) hC  hq)) px_nocut) (fun G Jf hG hJf => ?_)
    unfold f_12067 at hs
    simp (implicitDefEqProofs := false) only [↓hG, ↓hJf, ↓px_vc, ↓px_ex, ↓px_jp, ↓rq_gi_0, ↓rq_gi_S, ↓rq_gl_0, ↓rq_gl_S, ↓rq_gr_0, ↓rq_gr_S, ↓rq_s1_0, ↓rq_s1_1, ↓rq_s1_S, ↓rq_s2_0, ↓rq_s2_1, ↓rq_s2_S, ↓rq_nl_n, ↓rq_nl_i, ↓rq_nl_l, ↓rq_nl_r, ↓rq_i1_s, ↓rq_l1_s, ↓r1_s, ↓rq_q1_s, ↓rq_i2_s, ↓rq_l2_s, ↓rq_il_s, ↓rq_d0_s, ↓rq_d1_i, ↓rq_d1_r, ↓rq_d2_l, ↓rq_d2_ii, ↓rq_d2_ir, ↓px_pop, ↓px_sp, ↓px_rd, ↓px_rf, ↓pn_xf, ↓rq_pt_0, ↓rq_pt_1, ↓rq_pt_2, ↓rq_pt_3, ↓px_sw, ↓pn_SW, ↓px_ma, ↓reduceIte, Nat.reduceEqDiff, Nat.reduceAdd, Nat.reduceSub, ↓Option.toList_some, ↓Option.toList_none, ↓List.cons_append, ↓List.nil_append, ↓kI_s, ↓kJ_s, ↓kN_s, ↓kO_s, ↓kZ_s, ↓kE_s, ↓an_rfl, ↓bt1 n00, ↓bt2 n00, ↓bf1 n10, ↓bf2 n10, ↓an_sz0, ↓an_sz1, ↓an_sz2, ↓an_sz3, ↓an_sz4, ↓an_ri, ↓an_rb0, ↓an_rb1, ↓an_b0, ↓an_b1, true_and, ↓ai_0s, ↓al_0s, ↓av_0s, ↓aq_0s, ↓ai_1s, ↓al_1s, ↓av_1s, ↓aq_1s, ↓ai_2s, ↓al_2s, ↓av_2s, ↓aq_2s, ↓ai_3s, ↓al_3s, ↓av_3s, ↓aq_3s, ↓ai_4s, ↓al_4s, ↓av_4s, ↓aq_4s, ↓ai_5s, ↓al_5s, ↓av_5s, ↓aq_5s, ↓ai_6s, ↓al_6s, ↓av_6s, ↓aq_6s, ↓ai_7s, ↓al_7s, ↓av_7s, ↓aq_7s, ↓an_l6, ↓bk_12067, ↓kp_12067_8]
    exact hs
def Sg_12050 (g : px_M → Nat → Int32 → Int32 → Int64 → Option (Int64 × px_M)) : px_S := fun av σ k => av_0 av (fun x0 av => ai_1 av (fun x1 av => ai_2 av (fun x2 av => al_3 av (fun x3 av => av = [] ∧ oW (g σ x0 x1 x2 x3) (fun q => k (some (.inr (.inl q.1))) q.2)))))
/-- NoThree.write(IIJ)J -/
noncomputable def f_12050_49 (tab : px_T) (σ : px_M) (x0 : Nat) (x1 : Int32) (x2 : Int32) : Option (Int64 × px_M) := gd (px_obj (px_lay tab x0) 12) ((f_12066 tab σ x0 x1 x2).bind fun r1 => some ((r1, σ)))
noncomputable def f_12050_38 (tab : px_T) (σ : px_M) : Option (Int64 × px_M) := some (((-7), σ))
noncomputable def f_12050 (tab : px_T) (σ : px_M) (x0 : Nat) (x1 : Int32) (x2 : Int32) (x3 : Int64) : Option (Int64 × px_M) := (f_12055 tab σ x1).bind fun r1 => bn (r1 = nI 0) (gd (px_obj (px_lay tab x0) 12) ((((σ).2.2 x0 15)).bind fun n2 => oA (px_lay tab n2) fun t3 l4 => gd (t3 = 0 ∨ t3 = 11) (gd (vp_in x1 l4) (if nI 0 ≤ (px_av t3 σ n2 (x1).toNatClampNeg) then (if x2 < nI 0 then (f_12050_38 tab σ) else (if x2 < (px_av t3 σ n2 (x1).toNatClampNeg) then ((f_12067 tab σ x0 x1 x2 x3).bind fun q5 => f_12050_49 tab q5 x0 x1 x2) else (f_12050_38 tab σ))) else (some (((-6), σ))))))) (some (((-2), σ)))
def kp_12050_49 (Q : Nat → Int32 → Int32 → px_M → Prop) : px_P := fun ls st τ => st = [] ∧ kN ls (fun x0 ls => kI ls (fun x1 ls => kI ls (fun x2 ls => kZ ls (fun ls => kZ ls (fun ls => kE ls (Q x0 x1 x2 τ))))))
theorem kq_12050_49 {C : px_C} {k : Option px_V → px_M → Prop} {Q : Nat → Int32 → Int32 → px_M → Prop} (H : ∀ (x0 : Nat) (x1 : Int32) (x2 : Int32) (τ : px_M), Q x0 x1 x2 τ → ∀ (z3 : Option px_V) (z4 : Option px_V), px_W C k 49 [some (.inr (.inr (some x0))), some (.inl x1), some (.inl x2), z3, z4] [] τ) : ∀ ls st τ, kp_12050_49 Q ls st τ → px_W C k 49 ls st τ := by
  intro ls st τ hz
  obtain ⟨ez, h0⟩ := hz
  obtain ⟨x0, l0, e0, h1⟩ := kN_sp h0
  obtain ⟨x1, l1, e1, h2⟩ := kI_sp h1
  obtain ⟨x2, l2, e2, h3⟩ := kI_sp h2
  obtain ⟨z3, l3, e3, h4⟩ := kZ_sp h3
  obtain ⟨z4, l4, e4, h5⟩ := kZ_sp h4
  obtain ⟨ey, hy⟩ := kE_sp h5
  subst ez
  subst ey
  subst e4
  subst e3
  subst e2
  subst e1
  subst e0
  exact H x0 x1 x2 τ hy z3 z4
def kp_12050_38 (Q : px_M → Prop) : px_P := fun ls st τ => st = [] ∧ kZ ls (fun ls => kZ ls (fun ls => kZ ls (fun ls => kZ ls (fun ls => kZ ls (fun ls => kE ls (Q τ))))))
theorem kq_12050_38 {C : px_C} {k : Option px_V → px_M → Prop} {Q : px_M → Prop} (H : ∀ (τ : px_M), Q τ → ∀ (z0 : Option px_V) (z1 : Option px_V) (z2 : Option px_V) (z3 : Option px_V) (z4 : Option px_V), px_W C k 38 [z0, z1, z2, z3, z4] [] τ) : ∀ ls st τ, kp_12050_38 Q ls st τ → px_W C k 38 ls st τ := by
  intro ls st τ hz
  obtain ⟨ez, h0⟩ := hz
  obtain ⟨z0, l0, e0, h1⟩ := kZ_sp h0
  obtain ⟨z1, l1, e1, h2⟩ := kZ_sp h1
  obtain ⟨z2, l2, e2, h3⟩ := kZ_sp h2
  obtain ⟨z3, l3, e3, h4⟩ := kZ_sp h3
  obtain ⟨z4, l4, e4, h5⟩ := kZ_sp h4
  obtain ⟨ey, hy⟩ := kE_sp h5
  subst ez
  subst ey
  subst e4
  subst e3
  subst e2
  subst e1
  subst e0
  exact H τ hy z0 z1 z2 z3 z4
set_option maxHeartbeats 4000000 in
set_option maxRecDepth 100000 in
theorem rl_12050_49 {C : px_C} (hn : px_nd (px_tb C)) {h : Nat} (hh : 3 ≤ h) (hC : px_ok C pn_i12050 h) {k : Option px_V → px_M → Prop} {x0 : Nat} {x1 : Int32} {x2 : Int32} {σ : px_M} (hs : oW (f_12050_49 (px_tb C) σ x0 x1 x2) (fun q => k (some (.inr (.inl q.1))) q.2)) : ∀ (z3 : Option px_V) (z4 : Option px_V), px_W C k 49 [some (.inr (.inr (some x0))), some (.inl x1), some (.inl x2), z3, z4] [] σ := by
  intro z3 z4
  refine px_runH (h - 1) ck_12050 [(12066, Sg_12066 (f_12066 (px_tb C)))] [] 80 5 (some .long) rfl rfl hC (px_sp1 (mf_12066 hn (by omega)) px_nosp) (by omega) px_nocut (fun G Jf hG hJf => ?_)
  unfold f_12050_49 at hs
  obtain ⟨hc0, hs⟩ := oW_gx hs
  obtain ⟨r1, hc1, hs⟩ := oW_bx hs
  simp (implicitDefEqProofs := false) only [↓hG, ↓hJf, ↓px_vc, ↓px_ex, ↓px_jp, ↓rq_gi_0, ↓rq_gi_S, ↓rq_gl_0, ↓rq_gl_S, ↓rq_gr_0, ↓rq_gr_S, ↓rq_s1_0, ↓rq_s1_1, ↓rq_s1_S, ↓rq_s2_0, ↓rq_s2_1, ↓rq_s2_S, ↓rq_nl_n, ↓rq_nl_i, ↓rq_nl_l, ↓rq_nl_r, ↓rq_i1_s, ↓rq_l1_s, ↓r1_s, ↓rq_q1_s, ↓rq_i2_s, ↓rq_l2_s, ↓rq_il_s, ↓rq_d0_s, ↓rq_d1_i, ↓rq_d1_r, ↓rq_d2_l, ↓rq_d2_ii, ↓rq_d2_ir, ↓px_pop, ↓px_sp, ↓px_rd, ↓px_rf, ↓pn_xf, ↓rq_pt_0, ↓rq_pt_1, ↓rq_pt_2, ↓rq_pt_3, ↓px_sw, ↓pn_SW, ↓px_ma, ↓reduceIte, Nat.reduceEqDiff, Nat.reduceAdd, Nat.reduceSub, ↓Option.toList_some, ↓Option.toList_none, ↓List.cons_append, ↓List.nil_append, ↓kI_s, ↓kJ_s, ↓kN_s, ↓kO_s, ↓kZ_s, ↓kE_s, ↓an_rfl, ↓bt1 n00, ↓bt2 n00, ↓bf1 n10, ↓bf2 n10, ↓an_sz0, ↓an_sz1, ↓an_sz2, ↓an_sz3, ↓an_sz4, ↓an_ri, ↓an_rb0, ↓an_rb1, ↓an_b0, ↓an_b1, true_and, ↓ai_0s, ↓al_0s, ↓av_0s, ↓aq_0s, ↓ai_1s, ↓al_1s, ↓av_1s, ↓aq_1s, ↓ai_2s, ↓al_2s, ↓av_2s, ↓aq_2s, ↓ai_3s, ↓al_3s, ↓av_3s, ↓aq_3s, ↓ai_4s, ↓al_4s, ↓av_4s, ↓aq_4s, ↓ai_5s, ↓al_5s, ↓av_5s, ↓aq_5s, ↓ai_6s, ↓al_6s, ↓av_6s, ↓aq_6s, ↓ai_7s, ↓al_7s, ↓av_7s, ↓aq_7s, ↓an_l5, ↓bk_12050, ↓Sg_12066, ↓an_t hc0, ↓an_rv hc0, ↓oW_e hc1]
  rw [oW_some] at hs
  exact hs
set_option maxHeartbeats 4000000 in
set_option maxRecDepth 100000 in
theorem rl_12050_38 {C : px_C} (hn : px_nd (px_tb C)) {h : Nat} (hh : 3 ≤ h) (hC : px_ok C pn_i12050 h) {k : Option px_V → px_M → Prop} {σ : px_M} (hs : oW (f_12050_38 (px_tb C) σ) (fun q => k (some (.inr (.inl q.1))) q.2)) : ∀ (z0 : Option px_V) (z1 : Option px_V) (z2 : Option px_V) (z3 : Option px_V) (z4 : Option px_V), px_W C k 38 [z0, z1, z2, z3, z4] [] σ := by
  intro z0 z1 z2 z3 z4
  refine px_runH (h - 1) ck_12050 [] [] 80 5 (some .long) rfl rfl hC px_nosp (by omega) px_nocut (fun G Jf hG hJf => ?_)
  unfold f_12050_38 at hs
  simp (implicitDefEqProofs := false) only [↓hG, ↓hJf, ↓px_vc, ↓px_ex, ↓px_jp, ↓rq_gi_0, ↓rq_gi_S, ↓rq_gl_0, ↓rq_gl_S, ↓rq_gr_0, ↓rq_gr_S, ↓rq_s1_0, ↓rq_s1_1, ↓rq_s1_S, ↓rq_s2_0, ↓rq_s2_1, ↓rq_s2_S, ↓rq_nl_n, ↓rq_nl_i, ↓rq_nl_l, ↓rq_nl_r, ↓rq_i1_s, ↓rq_l1_s, ↓r1_s, ↓rq_q1_s, ↓rq_i2_s, ↓rq_l2_s, ↓rq_il_s, ↓rq_d0_s, ↓rq_d1_i, ↓rq_d1_r, ↓rq_d2_l, ↓rq_d2_ii, ↓rq_d2_ir, ↓px_pop, ↓px_sp, ↓px_rd, ↓px_rf, ↓pn_xf, ↓rq_pt_0, ↓rq_pt_1, ↓rq_pt_2, ↓rq_pt_3, ↓px_sw, ↓pn_SW, ↓px_ma, ↓reduceIte, Nat.reduceEqDiff, Nat.reduceAdd, Nat.reduceSub, ↓Option.toList_some, ↓Option.toList_none, ↓List.cons_append, ↓List.nil_append, ↓kI_s, ↓kJ_s, ↓kN_s, ↓kO_s, ↓kZ_s, ↓kE_s, ↓an_rfl, ↓bt1 n00, ↓bt2 n00, ↓bf1 n10, ↓bf2 n10, ↓an_sz0, ↓an_sz1, ↓an_sz2, ↓an_sz3, ↓an_sz4, ↓an_ri, ↓an_rb0, ↓an_rb1, ↓an_b0, ↓an_b1, true_and, ↓ai_0s, ↓al_0s, ↓av_0s, ↓aq_0s, ↓ai_1s, ↓al_1s, ↓av_1s, ↓aq_1s, ↓ai_2s, ↓al_2s, ↓av_2s, ↓aq_2s, ↓ai_3s, ↓al_3s, ↓av_3s, ↓aq_3s, ↓ai_4s, ↓al_4s, ↓av_4s, ↓aq_4s, ↓ai_5s, ↓al_5s, ↓av_5s, ↓aq_5s, ↓ai_6s, ↓al_6s, ↓av_6s, ↓aq_6s, ↓ai_7s, ↓al_7s, ↓av_7s, ↓aq_7s, ↓an_l5, ↓bk_12050]
  rw [oW_some] at hs
  exact hs
set_option maxHeartbeats 4000000 in
set_option maxRecDepth 100000 in
theorem mf_12050 {tab : px_T} (hn : px_nd tab) {h : Nat} (hh : 3 ≤ h) : px_Ok tab pn_i12050 h (Sg_12050 (f_12050 tab)) := by
  refine px_mth hn (by decide +kernel) (fun av σ k hS => ?_) (fun C hT hC av σ k hS => ?_)
  · obtain ⟨x0, av0, e0, h0⟩ := av_0p hS
    obtain ⟨x1, av1, e1, h1⟩ := ai_1p h0
    obtain ⟨x2, av2, e2, h2⟩ := ai_2p h1
    obtain ⟨x3, av3, e3, h3⟩ := al_3p h2
    obtain ⟨ez, hs⟩ := h3
    subst ez
    subst e3
    subst e2
    subst e1
    subst e0
    exact Nat.le_of_ble_eq_true rfl
  · obtain ⟨x0, av0, e0, h0⟩ := av_0p hS
    obtain ⟨x1, av1, e1, h1⟩ := ai_1p h0
    obtain ⟨x2, av2, e2, h2⟩ := ai_2p h1
    obtain ⟨x3, av3, e3, h3⟩ := al_3p h2
    obtain ⟨ez, hs⟩ := h3
    subst ez
    subst e3
    subst e2
    subst e1
    subst e0
    subst hT
    show px_W C k 0 [some (.inr (.inr (some x0))), some (.inl x1), some (.inl x2), some (.inr (.inl x3)), none] [] σ
    refine px_runH (h - 1) ck_12050 [(12055, Sg_12055 (f_12055 (px_tb C))), (12067, Sg_12067 (f_12067 (px_tb C)))] [(38, kp_12050_38 (fun τ => oW (f_12050_38 (px_tb C) τ) (fun q => k (some (.inr (.inl q.1))) q.2))), (49, kp_12050_49 (fun y0 y1 y2 τ => oW (f_12050_49 (px_tb C) τ y0 y1 y2) (fun q => k (some (.inr (.inl q.1))) q.2)))] 80 5 (some .long) rfl rfl hC (px_sp1 (mf_12055 hn (by omega)) (px_sp1 (mf_12067 hn (by omega)) px_nosp)) (by omega) (px_cut1 (kq_12050_38 (fun τ hq => by exact rl_12050_38 hn (by omega) hC  hq)) (px_cut1 (kq_12050_49 (fun y0 y1 y2 τ hq => by exact rl_12050_49 hn (by omega) hC  hq)) px_nocut)) (fun G Jf hG hJf => ?_)
    unfold f_12050 at hs
    obtain ⟨r1, hc0, hs⟩ := oW_bx hs
    by_cases hc1 : r1 = nI 0
    · replace hs := bW_t hs hc1
      simp (implicitDefEqProofs := false) only [↓hG, ↓hJf, ↓px_vc, ↓px_ex, ↓px_jp, ↓rq_gi_0, ↓rq_gi_S, ↓rq_gl_0, ↓rq_gl_S, ↓rq_gr_0, ↓rq_gr_S, ↓rq_s1_0, ↓rq_s1_1, ↓rq_s1_S, ↓rq_s2_0, ↓rq_s2_1, ↓rq_s2_S, ↓rq_nl_n, ↓rq_nl_i, ↓rq_nl_l, ↓rq_nl_r, ↓rq_i1_s, ↓rq_l1_s, ↓r1_s, ↓rq_q1_s, ↓rq_i2_s, ↓rq_l2_s, ↓rq_il_s, ↓rq_d0_s, ↓rq_d1_i, ↓rq_d1_r, ↓rq_d2_l, ↓rq_d2_ii, ↓rq_d2_ir, ↓px_pop, ↓px_sp, ↓px_rd, ↓px_rf, ↓pn_xf, ↓rq_pt_0, ↓rq_pt_1, ↓rq_pt_2, ↓rq_pt_3, ↓px_sw, ↓pn_SW, ↓px_ma, ↓reduceIte, Nat.reduceEqDiff, Nat.reduceAdd, Nat.reduceSub, ↓Option.toList_some, ↓Option.toList_none, ↓List.cons_append, ↓List.nil_append, ↓kI_s, ↓kJ_s, ↓kN_s, ↓kO_s, ↓kZ_s, ↓kE_s, ↓an_rfl, ↓bt1 n00, ↓bt2 n00, ↓bf1 n10, ↓bf2 n10, ↓an_sz0, ↓an_sz1, ↓an_sz2, ↓an_sz3, ↓an_sz4, ↓an_ri, ↓an_rb0, ↓an_rb1, ↓an_b0, ↓an_b1, true_and, ↓ai_0s, ↓al_0s, ↓av_0s, ↓aq_0s, ↓ai_1s, ↓al_1s, ↓av_1s, ↓aq_1s, ↓ai_2s, ↓al_2s, ↓av_2s, ↓aq_2s, ↓ai_3s, ↓al_3s, ↓av_3s, ↓aq_3s, ↓ai_4s, ↓al_4s, ↓av_4s, ↓aq_4s, ↓ai_5s, ↓al_5s, ↓av_5s, ↓aq_5s, ↓ai_6s, ↓al_6s, ↓av_6s, ↓aq_6s, ↓ai_7s, ↓al_7s, ↓av_7s, ↓aq_7s, ↓an_l5, ↓bk_12050, ↓Sg_12055, ↓Sg_12067, ↓kp_12050_38, ↓kp_12050_49, ↓oW_e hc0, ↓bt1 hc1, ↓bt2 hc1]
      rw [oW_some] at hs
      exact hs
    · replace hs := bW_f hs hc1
      obtain ⟨hc2, hs⟩ := oW_gx hs
      obtain ⟨n2, hc3, hs⟩ := oW_bx hs
      obtain ⟨t3, l4, hc4, hs⟩ := oW_ax hs
      obtain ⟨hc5, hs⟩ := oW_gx hs
      obtain ⟨hc6, hs⟩ := oW_gx hs
      by_cases hc7 : nI 0 ≤ (px_av t3 σ n2 (x1).toNatClampNeg)
      · replace hs := oW_t hs hc7
        by_cases hc8 : x2 < nI 0
        · replace hs := oW_t hs hc8
          simp (implicitDefEqProofs := false) only [↓hG, ↓hJf, ↓px_vc, ↓px_ex, ↓px_jp, ↓rq_gi_0, ↓rq_gi_S, ↓rq_gl_0, ↓rq_gl_S, ↓rq_gr_0, ↓rq_gr_S, ↓rq_s1_0, ↓rq_s1_1, ↓rq_s1_S, ↓rq_s2_0, ↓rq_s2_1, ↓rq_s2_S, ↓rq_nl_n, ↓rq_nl_i, ↓rq_nl_l, ↓rq_nl_r, ↓rq_i1_s, ↓rq_l1_s, ↓r1_s, ↓rq_q1_s, ↓rq_i2_s, ↓rq_l2_s, ↓rq_il_s, ↓rq_d0_s, ↓rq_d1_i, ↓rq_d1_r, ↓rq_d2_l, ↓rq_d2_ii, ↓rq_d2_ir, ↓px_pop, ↓px_sp, ↓px_rd, ↓px_rf, ↓pn_xf, ↓rq_pt_0, ↓rq_pt_1, ↓rq_pt_2, ↓rq_pt_3, ↓px_sw, ↓pn_SW, ↓px_ma, ↓reduceIte, Nat.reduceEqDiff, Nat.reduceAdd, Nat.reduceSub, ↓Option.toList_some, ↓Option.toList_none, ↓List.cons_append, ↓List.nil_append, ↓kI_s, ↓kJ_s, ↓kN_s, ↓kO_s, ↓kZ_s, ↓kE_s, ↓an_rfl, ↓bt1 n00, ↓bt2 n00, ↓bf1 n10, ↓bf2 n10, ↓an_sz0, ↓an_sz1, ↓an_sz2, ↓an_sz3, ↓an_sz4, ↓an_ri, ↓an_rb0, ↓an_rb1, ↓an_b0, ↓an_b1, true_and, ↓ai_0s, ↓al_0s, ↓av_0s, ↓aq_0s, ↓ai_1s, ↓al_1s, ↓av_1s, ↓aq_1s, ↓ai_2s, ↓al_2s, ↓av_2s, ↓aq_2s, ↓ai_3s, ↓al_3s, ↓av_3s, ↓aq_3s, ↓ai_4s, ↓al_4s, ↓av_4s, ↓aq_4s, ↓ai_5s, ↓al_5s, ↓av_5s, ↓aq_5s, ↓ai_6s, ↓al_6s, ↓av_6s, ↓aq_6s, ↓ai_7s, ↓al_7s, ↓av_7s, ↓aq_7s, ↓an_l5, ↓bk_12050, ↓Sg_12055, ↓Sg_12067, ↓kp_12050_38, ↓kp_12050_49, ↓oW_e hc0, ↓bf1 hc1, ↓bf2 hc1, ↓an_t hc2, ↓an_rv hc2, ↓r1_e hc3, ↓av_0e hc3, ↓av_1e hc3, ↓av_2e hc3, ↓av_3e hc3, ↓ar_e hc4, ↓an_t hc5, ↓an_t hc6, ↓bt1 hc7, ↓bt2 hc7, ↓bt1 hc8, ↓bt2 hc8]
          exact hs
        · replace hs := oW_f hs hc8
          by_cases hc9 : x2 < (px_av t3 σ n2 (x1).toNatClampNeg)
          · replace hs := oW_t hs hc9
            obtain ⟨q5, hc10, hs⟩ := oW_bx hs
            simp (implicitDefEqProofs := false) only [↓hG, ↓hJf, ↓px_vc, ↓px_ex, ↓px_jp, ↓rq_gi_0, ↓rq_gi_S, ↓rq_gl_0, ↓rq_gl_S, ↓rq_gr_0, ↓rq_gr_S, ↓rq_s1_0, ↓rq_s1_1, ↓rq_s1_S, ↓rq_s2_0, ↓rq_s2_1, ↓rq_s2_S, ↓rq_nl_n, ↓rq_nl_i, ↓rq_nl_l, ↓rq_nl_r, ↓rq_i1_s, ↓rq_l1_s, ↓r1_s, ↓rq_q1_s, ↓rq_i2_s, ↓rq_l2_s, ↓rq_il_s, ↓rq_d0_s, ↓rq_d1_i, ↓rq_d1_r, ↓rq_d2_l, ↓rq_d2_ii, ↓rq_d2_ir, ↓px_pop, ↓px_sp, ↓px_rd, ↓px_rf, ↓pn_xf, ↓rq_pt_0, ↓rq_pt_1, ↓rq_pt_2, ↓rq_pt_3, ↓px_sw, ↓pn_SW, ↓px_ma, ↓reduceIte, Nat.reduceEqDiff, Nat.reduceAdd, Nat.reduceSub, ↓Option.toList_some, ↓Option.toList_none, ↓List.cons_append, ↓List.nil_append, ↓kI_s, ↓kJ_s, ↓kN_s, ↓kO_s, ↓kZ_s, ↓kE_s, ↓an_rfl, ↓bt1 n00, ↓bt2 n00, ↓bf1 n10, ↓bf2 n10, ↓an_sz0, ↓an_sz1, ↓an_sz2, ↓an_sz3, ↓an_sz4, ↓an_ri, ↓an_rb0, ↓an_rb1, ↓an_b0, ↓an_b1, true_and, ↓ai_0s, ↓al_0s, ↓av_0s, ↓aq_0s, ↓ai_1s, ↓al_1s, ↓av_1s, ↓aq_1s, ↓ai_2s, ↓al_2s, ↓av_2s, ↓aq_2s, ↓ai_3s, ↓al_3s, ↓av_3s, ↓aq_3s, ↓ai_4s, ↓al_4s, ↓av_4s, ↓aq_4s, ↓ai_5s, ↓al_5s, ↓av_5s, ↓aq_5s, ↓ai_6s, ↓al_6s, ↓av_6s, ↓aq_6s, ↓ai_7s, ↓al_7s, ↓av_7s, ↓aq_7s, ↓an_l5, ↓bk_12050, ↓Sg_12055, ↓Sg_12067, ↓kp_12050_38, ↓kp_12050_49, ↓oW_e hc0, ↓bf1 hc1, ↓bf2 hc1, ↓an_t hc2, ↓an_rv hc2, ↓r1_e hc3, ↓av_0e hc3, ↓av_1e hc3, ↓av_2e hc3, ↓av_3e hc3, ↓ar_e hc4, ↓an_t hc5, ↓an_t hc6, ↓bt1 hc7, ↓bt2 hc7, ↓bf1 hc8, ↓bf2 hc8, ↓bt1 hc9, ↓bt2 hc9, ↓oW_e hc10]
            exact hs
          · replace hs := oW_f hs hc9
            simp (implicitDefEqProofs := false) only [↓hG, ↓hJf, ↓px_vc, ↓px_ex, ↓px_jp, ↓rq_gi_0, ↓rq_gi_S, ↓rq_gl_0, ↓rq_gl_S, ↓rq_gr_0, ↓rq_gr_S, ↓rq_s1_0, ↓rq_s1_1, ↓rq_s1_S, ↓rq_s2_0, ↓rq_s2_1, ↓rq_s2_S, ↓rq_nl_n, ↓rq_nl_i, ↓rq_nl_l, ↓rq_nl_r, ↓rq_i1_s, ↓rq_l1_s, ↓r1_s, ↓rq_q1_s, ↓rq_i2_s, ↓rq_l2_s, ↓rq_il_s, ↓rq_d0_s, ↓rq_d1_i, ↓rq_d1_r, ↓rq_d2_l, ↓rq_d2_ii, ↓rq_d2_ir, ↓px_pop, ↓px_sp, ↓px_rd, ↓px_rf, ↓pn_xf, ↓rq_pt_0, ↓rq_pt_1, ↓rq_pt_2, ↓rq_pt_3, ↓px_sw, ↓pn_SW, ↓px_ma, ↓reduceIte, Nat.reduceEqDiff, Nat.reduceAdd, Nat.reduceSub, ↓Option.toList_some, ↓Option.toList_none, ↓List.cons_append, ↓List.nil_append, ↓kI_s, ↓kJ_s, ↓kN_s, ↓kO_s, ↓kZ_s, ↓kE_s, ↓an_rfl, ↓bt1 n00, ↓bt2 n00, ↓bf1 n10, ↓bf2 n10, ↓an_sz0, ↓an_sz1, ↓an_sz2, ↓an_sz3, ↓an_sz4, ↓an_ri, ↓an_rb0, ↓an_rb1, ↓an_b0, ↓an_b1, true_and, ↓ai_0s, ↓al_0s, ↓av_0s, ↓aq_0s, ↓ai_1s, ↓al_1s, ↓av_1s, ↓aq_1s, ↓ai_2s, ↓al_2s, ↓av_2s, ↓aq_2s, ↓ai_3s, ↓al_3s, ↓av_3s, ↓aq_3s, ↓ai_4s, ↓al_4s, ↓av_4s, ↓aq_4s, ↓ai_5s, ↓al_5s, ↓av_5s, ↓aq_5s, ↓ai_6s, ↓al_6s, ↓av_6s, ↓aq_6s, ↓ai_7s, ↓al_7s, ↓av_7s, ↓aq_7s, ↓an_l5, ↓bk_12050, ↓Sg_12055, ↓Sg_12067, ↓kp_12050_38, ↓kp_12050_49, ↓oW_e hc0, ↓bf1 hc1, ↓bf2 hc1, ↓an_t hc2, ↓an_rv hc2, ↓r1_e hc3, ↓av_0e hc3, ↓av_1e hc3, ↓av_2e hc3, ↓av_3e hc3, ↓ar_e hc4, ↓an_t hc5, ↓an_t hc6, ↓bt1 hc7, ↓bt2 hc7, ↓bf1 hc8, ↓bf2 hc8, ↓bf1 hc9, ↓bf2 hc9]
            exact hs
      · replace hs := oW_f hs hc7
        simp (implicitDefEqProofs := false) only [↓hG, ↓hJf, ↓px_vc, ↓px_ex, ↓px_jp, ↓rq_gi_0, ↓rq_gi_S, ↓rq_gl_0, ↓rq_gl_S, ↓rq_gr_0, ↓rq_gr_S, ↓rq_s1_0, ↓rq_s1_1, ↓rq_s1_S, ↓rq_s2_0, ↓rq_s2_1, ↓rq_s2_S, ↓rq_nl_n, ↓rq_nl_i, ↓rq_nl_l, ↓rq_nl_r, ↓rq_i1_s, ↓rq_l1_s, ↓r1_s, ↓rq_q1_s, ↓rq_i2_s, ↓rq_l2_s, ↓rq_il_s, ↓rq_d0_s, ↓rq_d1_i, ↓rq_d1_r, ↓rq_d2_l, ↓rq_d2_ii, ↓rq_d2_ir, ↓px_pop, ↓px_sp, ↓px_rd, ↓px_rf, ↓pn_xf, ↓rq_pt_0, ↓rq_pt_1, ↓rq_pt_2, ↓rq_pt_3, ↓px_sw, ↓pn_SW, ↓px_ma, ↓reduceIte, Nat.reduceEqDiff, Nat.reduceAdd, Nat.reduceSub, ↓Option.toList_some, ↓Option.toList_none, ↓List.cons_append, ↓List.nil_append, ↓kI_s, ↓kJ_s, ↓kN_s, ↓kO_s, ↓kZ_s, ↓kE_s, ↓an_rfl, ↓bt1 n00, ↓bt2 n00, ↓bf1 n10, ↓bf2 n10, ↓an_sz0, ↓an_sz1, ↓an_sz2, ↓an_sz3, ↓an_sz4, ↓an_ri, ↓an_rb0, ↓an_rb1, ↓an_b0, ↓an_b1, true_and, ↓ai_0s, ↓al_0s, ↓av_0s, ↓aq_0s, ↓ai_1s, ↓al_1s, ↓av_1s, ↓aq_1s, ↓ai_2s, ↓al_2s, ↓av_2s, ↓aq_2s, ↓ai_3s, ↓al_3s, ↓av_3s, ↓aq_3s, ↓ai_4s, ↓al_4s, ↓av_4s, ↓aq_4s, ↓ai_5s, ↓al_5s, ↓av_5s, ↓aq_5s, ↓ai_6s, ↓al_6s, ↓av_6s, ↓aq_6s, ↓ai_7s, ↓al_7s, ↓av_7s, ↓aq_7s, ↓an_l5, ↓bk_12050, ↓Sg_12055, ↓Sg_12067, ↓kp_12050_38, ↓kp_12050_49, ↓oW_e hc0, ↓bf1 hc1, ↓bf2 hc1, ↓an_t hc2, ↓an_rv hc2, ↓r1_e hc3, ↓av_0e hc3, ↓av_1e hc3, ↓av_2e hc3, ↓av_3e hc3, ↓ar_e hc4, ↓an_t hc5, ↓an_t hc6, ↓bf1 hc7, ↓bf2 hc7]
        rw [oW_some] at hs
        exact hs
def Sg_12051 (g : px_M → Nat → Int32 → Option (Int32 × px_M)) : px_S := fun av σ k => av_0 av (fun x0 av => ai_1 av (fun x1 av => av = [] ∧ oW (g σ x0 x1) (fun q => k (some (.inl q.1)) q.2)))
/-- NoThree.copy(I)I -/
noncomputable def f_12051_105 (tab : px_T) (σ : px_M) (x0 : Nat) (x1 : Int32) (x2 : Int32) (x3 : Int32) (x4 : Int32) : Option ((Int32 × Int32 × px_M) ⊕ ((Int32 × Int32 × px_M) ⊕ (Int32 × px_M))) := some (.inl ((x2, (x4 + (nI 1)), σ)))
noncomputable def f_12051_86 (tab : px_T) (σ : px_M) (x0 : Nat) (x1 : Int32) (x2 : Int32) (x3 : Int32) (x4 : Int32) : Option ((Int32 × Int32 × px_M) ⊕ ((Int32 × Int32 × px_M) ⊕ (Int32 × px_M))) := gd (px_obj (px_lay tab x0) 12) ((f_12067 tab σ x0 x1 x2 ((((lN 100) * (x3).toInt64) + (x4).toInt64))).bind fun q1 => f_12051_105 tab q1 x0 x1 ((x2 + (nI 1))) x3 x4)
noncomputable def F_12051_45 (tab : px_T) (x0 : Nat) (x1 : Int32) (x3 : Int32) (x2 : Int32) (x4 : Int32) (σ : px_M) : Option ((Int32 × Int32 × px_M) ⊕ ((Int32 × Int32 × px_M) ⊕ (Int32 × px_M))) := gd (px_obj (px_lay tab x0) 12) ((((σ).2.2 x0 0)).bind fun n1 => gd (px_obj (px_lay tab n1) 1) ((((σ).2.2 n1 0)).bind fun n2 => gd (px_obj (px_lay tab n2) 11) (if ((σ).1 n2 0) ≤ x4 then (some (.inr (.inl ((x2, (x3 + (nI 1)), σ))))) else ((((σ).2.2 x0 15)).bind fun n3 => oA (px_lay tab n3) fun t4 l5 => gd (t4 = 0 ∨ t4 = 11) (gd (vp_in x1 l5) (if (px_av t4 σ n3 (x1).toNatClampNeg) ≤ x2 then (f_12051_105 tab σ x0 x1 x2 x3 x4) else ((f_11006 tab σ n2 x3 x4).bind fun r6 => if r6 = nI 0 then (f_12051_105 tab σ x0 x1 x2 x3 x4) else (f_12051_86 tab σ x0 x1 x2 x3 x4))))))))
noncomputable def f_12051_45 (tab : px_T) (x0 : Nat) (x1 : Int32) (x3 : Int32) (x2 : Int32) (x4 : Int32) (σ : px_M) : Option ((Int32 × Int32 × px_M) ⊕ (Int32 × px_M)) := lpO (fun s : Int32 × Int32 × px_M => F_12051_45 tab x0 x1 x3 s.1 s.2.1 s.2.2) (x2, x4, σ)
theorem f_12051_45_eq (tab : px_T) (x0 : Nat) (x1 : Int32) (x3 : Int32) (x2 : Int32) (x4 : Int32) (σ : px_M) : f_12051_45 tab x0 x1 x3 x2 x4 σ = (F_12051_45 tab x0 x1 x3 x2 x4 σ).bind (Sum.elim (fun s => f_12051_45 tab x0 x1 x3 s.1 s.2.1 s.2.2) some) := lpO_eq _ _
noncomputable def F_12051_26 (tab : px_T) (x0 : Nat) (x1 : Int32) (x2 : Int32) (x3 : Int32) (σ : px_M) : Option ((Int32 × Int32 × px_M) ⊕ (Int32 × px_M)) := gd (px_obj (px_lay tab x0) 12) ((((σ).2.2 x0 0)).bind fun n1 => gd (px_obj (px_lay tab n1) 1) ((((σ).2.2 n1 0)).bind fun n2 => gd (px_obj (px_lay tab n2) 11) (if ((σ).1 n2 0) ≤ x3 then (some (.inr ((x2, σ)))) else (f_12051_45 tab x0 x1 x3 x2 ((x3 + (nI 1))) σ))))
noncomputable def f_12051_26 (tab : px_T) (x0 : Nat) (x1 : Int32) (x2 : Int32) (x3 : Int32) (σ : px_M) : Option (Int32 × px_M) := lpO (fun s : Int32 × Int32 × px_M => F_12051_26 tab x0 x1 s.1 s.2.1 s.2.2) (x2, x3, σ)
theorem f_12051_26_eq (tab : px_T) (x0 : Nat) (x1 : Int32) (x2 : Int32) (x3 : Int32) (σ : px_M) : f_12051_26 tab x0 x1 x2 x3 σ = (F_12051_26 tab x0 x1 x2 x3 σ).bind (Sum.elim (fun s => f_12051_26 tab x0 x1 s.1 s.2.1 s.2.2) some) := lpO_eq _ _
noncomputable def f_12051 (tab : px_T) (σ : px_M) (x0 : Nat) (x1 : Int32) : Option (Int32 × px_M) := (f_12055 tab σ x1).bind fun r1 => bn (r1 = nI 0) (gd (px_obj (px_lay tab x0) 12) ((((σ).2.2 x0 15)).bind fun n2 => oA (px_lay tab n2) fun t3 l4 => gd (t3 = 0 ∨ t3 = 11) (gd (vp_in x1 l4) (if nI 0 ≤ (px_av t3 σ n2 (x1).toNatClampNeg) then (f_12051_26 tab x0 x1 ((nI 0)) ((nI 0)) σ) else (some (((-6), σ))))))) (some (((-2), σ)))
def kp_12051_105 (Q : Nat → Int32 → Int32 → Int32 → Int32 → px_M → Prop) : px_P := fun ls st τ => st = [] ∧ kN ls (fun x0 ls => kI ls (fun x1 ls => kI ls (fun x2 ls => kI ls (fun x3 ls => kI ls (fun x4 ls => kE ls (Q x0 x1 x2 x3 x4 τ))))))
theorem kq_12051_105 {C : px_C} {k : Option px_V → px_M → Prop} {Q : Nat → Int32 → Int32 → Int32 → Int32 → px_M → Prop} (H : ∀ (x0 : Nat) (x1 : Int32) (x2 : Int32) (x3 : Int32) (x4 : Int32) (τ : px_M), Q x0 x1 x2 x3 x4 τ → px_W C k 105 [some (.inr (.inr (some x0))), some (.inl x1), some (.inl x2), some (.inl x3), some (.inl x4)] [] τ) : ∀ ls st τ, kp_12051_105 Q ls st τ → px_W C k 105 ls st τ := by
  intro ls st τ hz
  obtain ⟨ez, h0⟩ := hz
  obtain ⟨x0, l0, e0, h1⟩ := kN_sp h0
  obtain ⟨x1, l1, e1, h2⟩ := kI_sp h1
  obtain ⟨x2, l2, e2, h3⟩ := kI_sp h2
  obtain ⟨x3, l3, e3, h4⟩ := kI_sp h3
  obtain ⟨x4, l4, e4, h5⟩ := kI_sp h4
  obtain ⟨ey, hy⟩ := kE_sp h5
  subst ez
  subst ey
  subst e4
  subst e3
  subst e2
  subst e1
  subst e0
  exact H x0 x1 x2 x3 x4 τ hy
def kp_12051_86 (Q : Nat → Int32 → Int32 → Int32 → Int32 → px_M → Prop) : px_P := fun ls st τ => st = [] ∧ kN ls (fun x0 ls => kI ls (fun x1 ls => kI ls (fun x2 ls => kI ls (fun x3 ls => kI ls (fun x4 ls => kE ls (Q x0 x1 x2 x3 x4 τ))))))
theorem kq_12051_86 {C : px_C} {k : Option px_V → px_M → Prop} {Q : Nat → Int32 → Int32 → Int32 → Int32 → px_M → Prop} (H : ∀ (x0 : Nat) (x1 : Int32) (x2 : Int32) (x3 : Int32) (x4 : Int32) (τ : px_M), Q x0 x1 x2 x3 x4 τ → px_W C k 86 [some (.inr (.inr (some x0))), some (.inl x1), some (.inl x2), some (.inl x3), some (.inl x4)] [] τ) : ∀ ls st τ, kp_12051_86 Q ls st τ → px_W C k 86 ls st τ := by
  intro ls st τ hz
  obtain ⟨ez, h0⟩ := hz
  obtain ⟨x0, l0, e0, h1⟩ := kN_sp h0
  obtain ⟨x1, l1, e1, h2⟩ := kI_sp h1
  obtain ⟨x2, l2, e2, h3⟩ := kI_sp h2
  obtain ⟨x3, l3, e3, h4⟩ := kI_sp h3
  obtain ⟨x4, l4, e4, h5⟩ := kI_sp h4
  obtain ⟨ey, hy⟩ := kE_sp h5
  subst ez
  subst ey
  subst e4
  subst e3
  subst e2
  subst e1
  subst e0
  exact H x0 x1 x2 x3 x4 τ hy
def kp_12051_45 (Q : Nat → Int32 → Int32 → Int32 → Int32 → px_M → Prop) : px_P := fun ls st τ => st = [] ∧ kN ls (fun x0 ls => kI ls (fun x1 ls => kI ls (fun x2 ls => kI ls (fun x3 ls => kI ls (fun x4 ls => kE ls (Q x0 x1 x2 x3 x4 τ))))))
theorem kq_12051_45 {C : px_C} {k : Option px_V → px_M → Prop} {Q : Nat → Int32 → Int32 → Int32 → Int32 → px_M → Prop} (H : ∀ (x0 : Nat) (x1 : Int32) (x2 : Int32) (x3 : Int32) (x4 : Int32) (τ : px_M), Q x0 x1 x2 x3 x4 τ → px_W C k 45 [some (.inr (.inr (some x0))), some (.inl x1), some (.inl x2), some (.inl x3), some (.inl x4)] [] τ) : ∀ ls st τ, kp_12051_45 Q ls st τ → px_W C k 45 ls st τ := by
  intro ls st τ hz
  obtain ⟨ez, h0⟩ := hz
  obtain ⟨x0, l0, e0, h1⟩ := kN_sp h0
  obtain ⟨x1, l1, e1, h2⟩ := kI_sp h1
  obtain ⟨x2, l2, e2, h3⟩ := kI_sp h2
  obtain ⟨x3, l3, e3, h4⟩ := kI_sp h3
  obtain ⟨x4, l4, e4, h5⟩ := kI_sp h4
  obtain ⟨ey, hy⟩ := kE_sp h5
  subst ez
  subst ey
  subst e4
  subst e3
  subst e2
  subst e1
  subst e0
  exact H x0 x1 x2 x3 x4 τ hy
def kp_12051_26 (Q : Nat → Int32 → Int32 → Int32 → px_M → Prop) : px_P := fun ls st τ => st = [] ∧ kN ls (fun x0 ls => kI ls (fun x1 ls => kI ls (fun x2 ls => kI ls (fun x3 ls => kZ ls (fun ls => kE ls (Q x0 x1 x2 x3 τ))))))
theorem kq_12051_26 {C : px_C} {k : Option px_V → px_M → Prop} {Q : Nat → Int32 → Int32 → Int32 → px_M → Prop} (H : ∀ (x0 : Nat) (x1 : Int32) (x2 : Int32) (x3 : Int32) (τ : px_M), Q x0 x1 x2 x3 τ → ∀ (z4 : Option px_V), px_W C k 26 [some (.inr (.inr (some x0))), some (.inl x1), some (.inl x2), some (.inl x3), z4] [] τ) : ∀ ls st τ, kp_12051_26 Q ls st τ → px_W C k 26 ls st τ := by
  intro ls st τ hz
  obtain ⟨ez, h0⟩ := hz
  obtain ⟨x0, l0, e0, h1⟩ := kN_sp h0
  obtain ⟨x1, l1, e1, h2⟩ := kI_sp h1
  obtain ⟨x2, l2, e2, h3⟩ := kI_sp h2
  obtain ⟨x3, l3, e3, h4⟩ := kI_sp h3
  obtain ⟨z4, l4, e4, h5⟩ := kZ_sp h4
  obtain ⟨ey, hy⟩ := kE_sp h5
  subst ez
  subst ey
  subst e4
  subst e3
  subst e2
  subst e1
  subst e0
  exact H x0 x1 x2 x3 τ hy z4
set_option maxHeartbeats 4000000 in
set_option maxRecDepth 100000 in
theorem rl_12051_105 {C : px_C} (hn : px_nd (px_tb C)) {h : Nat} (hh : 3 ≤ h) (hC : px_ok C pn_i12051 h) {k : Option px_V → px_M → Prop} {x0 : Nat} {x1 : Int32} {x2 : Int32} {x3 : Int32} {x4 : Int32} {σ : px_M} (hs : oW (f_12051_105 (px_tb C) σ x0 x1 x2 x3 x4) (Sum.elim (fun s : Int32 × Int32 × px_M => px_W C k 45 [some (.inr (.inr (some x0))), some (.inl x1), some (.inl s.1), some (.inl x3), some (.inl s.2.1)] [] s.2.2) (Sum.elim (fun s : Int32 × Int32 × px_M => ∀ (z4 : Option px_V), px_W C k 26 [some (.inr (.inr (some x0))), some (.inl x1), some (.inl s.1), some (.inl s.2.1), z4] [] s.2.2) (fun q => k (some (.inl q.1)) q.2)))) : px_W C k 105 [some (.inr (.inr (some x0))), some (.inl x1), some (.inl x2), some (.inl x3), some (.inl x4)] [] σ := by
  refine px_runH (h - 1) ck_12051 [] [(45, kp_12051_45 (fun y0 y1 y2 y3 y4 τ => y0 = x0 ∧ y1 = x1 ∧ y3 = x3 ∧ (fun s : Int32 × Int32 × px_M => px_W C k 45 [some (.inr (.inr (some x0))), some (.inl x1), some (.inl s.1), some (.inl x3), some (.inl s.2.1)] [] s.2.2) (y2, y4, τ)))] 80 5 (some .int) rfl rfl hC px_nosp (by omega) (px_cut1 (kq_12051_45 (fun y0 y1 y2 y3 y4 τ hq => by obtain ⟨rfl, rfl, rfl, hq⟩ := hq; exact hq)) px_nocut) (fun G Jf hG hJf => ?_)
  unfold f_12051_105 at hs
  simp (implicitDefEqProofs := false) only [↓hG, ↓hJf, ↓px_vc, ↓px_ex, ↓px_jp, ↓rq_gi_0, ↓rq_gi_S, ↓rq_gl_0, ↓rq_gl_S, ↓rq_gr_0, ↓rq_gr_S, ↓rq_s1_0, ↓rq_s1_1, ↓rq_s1_S, ↓rq_s2_0, ↓rq_s2_1, ↓rq_s2_S, ↓rq_nl_n, ↓rq_nl_i, ↓rq_nl_l, ↓rq_nl_r, ↓rq_i1_s, ↓rq_l1_s, ↓r1_s, ↓rq_q1_s, ↓rq_i2_s, ↓rq_l2_s, ↓rq_il_s, ↓rq_d0_s, ↓rq_d1_i, ↓rq_d1_r, ↓rq_d2_l, ↓rq_d2_ii, ↓rq_d2_ir, ↓px_pop, ↓px_sp, ↓px_rd, ↓px_rf, ↓pn_xf, ↓rq_pt_0, ↓rq_pt_1, ↓rq_pt_2, ↓rq_pt_3, ↓px_sw, ↓pn_SW, ↓px_ma, ↓reduceIte, Nat.reduceEqDiff, Nat.reduceAdd, Nat.reduceSub, ↓Option.toList_some, ↓Option.toList_none, ↓List.cons_append, ↓List.nil_append, ↓kI_s, ↓kJ_s, ↓kN_s, ↓kO_s, ↓kZ_s, ↓kE_s, ↓an_rfl, ↓bt1 n00, ↓bt2 n00, ↓bf1 n10, ↓bf2 n10, ↓an_sz0, ↓an_sz1, ↓an_sz2, ↓an_sz3, ↓an_sz4, ↓an_ri, ↓an_rb0, ↓an_rb1, ↓an_b0, ↓an_b1, true_and, ↓ai_0s, ↓al_0s, ↓av_0s, ↓aq_0s, ↓ai_1s, ↓al_1s, ↓av_1s, ↓aq_1s, ↓ai_2s, ↓al_2s, ↓av_2s, ↓aq_2s, ↓ai_3s, ↓al_3s, ↓av_3s, ↓aq_3s, ↓ai_4s, ↓al_4s, ↓av_4s, ↓aq_4s, ↓ai_5s, ↓al_5s, ↓av_5s, ↓aq_5s, ↓ai_6s, ↓al_6s, ↓av_6s, ↓aq_6s, ↓ai_7s, ↓al_7s, ↓av_7s, ↓aq_7s, ↓an_l5, ↓bk_12051, ↓kp_12051_45]
  rw [oW_some] at hs
  exact hs
set_option maxHeartbeats 4000000 in
set_option maxRecDepth 100000 in
theorem rl_12051_86 {C : px_C} (hn : px_nd (px_tb C)) {h : Nat} (hh : 3 ≤ h) (hC : px_ok C pn_i12051 h) {k : Option px_V → px_M → Prop} {x0 : Nat} {x1 : Int32} {x2 : Int32} {x3 : Int32} {x4 : Int32} {σ : px_M} (hs : oW (f_12051_86 (px_tb C) σ x0 x1 x2 x3 x4) (Sum.elim (fun s : Int32 × Int32 × px_M => px_W C k 45 [some (.inr (.inr (some x0))), some (.inl x1), some (.inl s.1), some (.inl x3), some (.inl s.2.1)] [] s.2.2) (Sum.elim (fun s : Int32 × Int32 × px_M => ∀ (z4 : Option px_V), px_W C k 26 [some (.inr (.inr (some x0))), some (.inl x1), some (.inl s.1), some (.inl s.2.1), z4] [] s.2.2) (fun q => k (some (.inl q.1)) q.2)))) : px_W C k 86 [some (.inr (.inr (some x0))), some (.inl x1), some (.inl x2), some (.inl x3), some (.inl x4)] [] σ := by
  refine px_runH (h - 1) ck_12051 [(12067, Sg_12067 (f_12067 (px_tb C)))] [(105, kp_12051_105 (fun y0 y1 y2 y3 y4 τ => y0 = x0 ∧ y1 = x1 ∧ y3 = x3 ∧ oW (f_12051_105 (px_tb C) τ y0 y1 y2 y3 y4) (Sum.elim (fun s : Int32 × Int32 × px_M => px_W C k 45 [some (.inr (.inr (some x0))), some (.inl x1), some (.inl s.1), some (.inl x3), some (.inl s.2.1)] [] s.2.2) (Sum.elim (fun s : Int32 × Int32 × px_M => ∀ (z4 : Option px_V), px_W C k 26 [some (.inr (.inr (some x0))), some (.inl x1), some (.inl s.1), some (.inl s.2.1), z4] [] s.2.2) (fun q => k (some (.inl q.1)) q.2)))))] 80 5 (some .int) rfl rfl hC (px_sp1 (mf_12067 hn (by omega)) px_nosp) (by omega) (px_cut1 (kq_12051_105 (fun y0 y1 y2 y3 y4 τ hq => by obtain ⟨rfl, rfl, rfl, hq⟩ := hq; exact rl_12051_105 hn (by omega) hC  hq)) px_nocut) (fun G Jf hG hJf => ?_)
  unfold f_12051_86 at hs
  obtain ⟨hc0, hs⟩ := oW_gx hs
  obtain ⟨q1, hc1, hs⟩ := oW_bx hs
  simp (implicitDefEqProofs := false) only [↓hG, ↓hJf, ↓px_vc, ↓px_ex, ↓px_jp, ↓rq_gi_0, ↓rq_gi_S, ↓rq_gl_0, ↓rq_gl_S, ↓rq_gr_0, ↓rq_gr_S, ↓rq_s1_0, ↓rq_s1_1, ↓rq_s1_S, ↓rq_s2_0, ↓rq_s2_1, ↓rq_s2_S, ↓rq_nl_n, ↓rq_nl_i, ↓rq_nl_l, ↓rq_nl_r, ↓rq_i1_s, ↓rq_l1_s, ↓r1_s, ↓rq_q1_s, ↓rq_i2_s, ↓rq_l2_s, ↓rq_il_s, ↓rq_d0_s, ↓rq_d1_i, ↓rq_d1_r, ↓rq_d2_l, ↓rq_d2_ii, ↓rq_d2_ir, ↓px_pop, ↓px_sp, ↓px_rd, ↓px_rf, ↓pn_xf, ↓rq_pt_0, ↓rq_pt_1, ↓rq_pt_2, ↓rq_pt_3, ↓px_sw, ↓pn_SW, ↓px_ma, ↓reduceIte, Nat.reduceEqDiff, Nat.reduceAdd, Nat.reduceSub, ↓Option.toList_some, ↓Option.toList_none, ↓List.cons_append, ↓List.nil_append, ↓kI_s, ↓kJ_s, ↓kN_s, ↓kO_s, ↓kZ_s, ↓kE_s, ↓an_rfl, ↓bt1 n00, ↓bt2 n00, ↓bf1 n10, ↓bf2 n10, ↓an_sz0, ↓an_sz1, ↓an_sz2, ↓an_sz3, ↓an_sz4, ↓an_ri, ↓an_rb0, ↓an_rb1, ↓an_b0, ↓an_b1, true_and, ↓ai_0s, ↓al_0s, ↓av_0s, ↓aq_0s, ↓ai_1s, ↓al_1s, ↓av_1s, ↓aq_1s, ↓ai_2s, ↓al_2s, ↓av_2s, ↓aq_2s, ↓ai_3s, ↓al_3s, ↓av_3s, ↓aq_3s, ↓ai_4s, ↓al_4s, ↓av_4s, ↓aq_4s, ↓ai_5s, ↓al_5s, ↓av_5s, ↓aq_5s, ↓ai_6s, ↓al_6s, ↓av_6s, ↓aq_6s, ↓ai_7s, ↓al_7s, ↓av_7s, ↓aq_7s, ↓an_l5, ↓bk_12051, ↓Sg_12067, ↓kp_12051_105, ↓an_t hc0, ↓an_rv hc0, ↓oW_e hc1]
  exact hs
set_option maxHeartbeats 4000000 in
set_option maxRecDepth 100000 in
theorem rl_12051_45 {C : px_C} (hn : px_nd (px_tb C)) {h : Nat} (hh : 3 ≤ h) (hC : px_ok C pn_i12051 h) {k : Option px_V → px_M → Prop} {x0 : Nat} {x1 : Int32} {x3 : Int32} : ∀ s : Int32 × Int32 × px_M, oW (f_12051_45 (px_tb C) x0 x1 x3 s.1 s.2.1 s.2.2) (Sum.elim (fun s : Int32 × Int32 × px_M => ∀ (z4 : Option px_V), px_W C k 26 [some (.inr (.inr (some x0))), some (.inl x1), some (.inl s.1), some (.inl s.2.1), z4] [] s.2.2) (fun q => k (some (.inl q.1)) q.2)) → (fun s : Int32 × Int32 × px_M => px_W C k 45 [some (.inr (.inr (some x0))), some (.inl x1), some (.inl s.1), some (.inl x3), some (.inl s.2.1)] [] s.2.2) s := by
  intro s h0
  refine lpO_sound (P := (fun s : Int32 × Int32 × px_M => px_W C k 45 [some (.inr (.inr (some x0))), some (.inl x1), some (.inl s.1), some (.inl x3), some (.inl s.2.1)] [] s.2.2)) (fun s hs => ?_) h0
  obtain ⟨x2, x4, σ⟩ := s
  refine px_runH (h - 1) ck_12051 [(11006, Sg_11006 (f_11006 (px_tb C)))] [(26, kp_12051_26 (fun y0 y1 y2 y3 τ => y0 = x0 ∧ y1 = x1 ∧ (fun s : Int32 × Int32 × px_M => ∀ (z4 : Option px_V), px_W C k 26 [some (.inr (.inr (some x0))), some (.inl x1), some (.inl s.1), some (.inl s.2.1), z4] [] s.2.2) (y2, y3, τ))), (86, kp_12051_86 (fun y0 y1 y2 y3 y4 τ => y0 = x0 ∧ y1 = x1 ∧ y3 = x3 ∧ oW (f_12051_86 (px_tb C) τ y0 y1 y2 y3 y4) (Sum.elim (fun s : Int32 × Int32 × px_M => px_W C k 45 [some (.inr (.inr (some x0))), some (.inl x1), some (.inl s.1), some (.inl x3), some (.inl s.2.1)] [] s.2.2) (Sum.elim (fun s : Int32 × Int32 × px_M => ∀ (z4 : Option px_V), px_W C k 26 [some (.inr (.inr (some x0))), some (.inl x1), some (.inl s.1), some (.inl s.2.1), z4] [] s.2.2) (fun q => k (some (.inl q.1)) q.2))))), (105, kp_12051_105 (fun y0 y1 y2 y3 y4 τ => y0 = x0 ∧ y1 = x1 ∧ y3 = x3 ∧ oW (f_12051_105 (px_tb C) τ y0 y1 y2 y3 y4) (Sum.elim (fun s : Int32 × Int32 × px_M => px_W C k 45 [some (.inr (.inr (some x0))), some (.inl x1), some (.inl s.1), some (.inl x3), some (.inl s.2.1)] [] s.2.2) (Sum.elim (fun s : Int32 × Int32 × px_M => ∀ (z4 : Option px_V), px_W C k 26 [some (.inr (.inr (some x0))), some (.inl x1), some (.inl s.1), some (.inl s.2.1), z4] [] s.2.2) (fun q => k (some (.inl q.1)) q.2)))))] 80 5 (some .int) rfl rfl hC (px_sp1 (mf_11006 hn (by omega)) px_nosp) (by omega) (px_cut1 (kq_12051_26 (fun y0 y1 y2 y3 τ hq => by obtain ⟨rfl, rfl, hq⟩ := hq; exact hq)) (px_cut1 (kq_12051_86 (fun y0 y1 y2 y3 y4 τ hq => by obtain ⟨rfl, rfl, rfl, hq⟩ := hq; exact rl_12051_86 hn (by omega) hC  hq)) (px_cut1 (kq_12051_105 (fun y0 y1 y2 y3 y4 τ hq => by obtain ⟨rfl, rfl, rfl, hq⟩ := hq; exact rl_12051_105 hn (by omega) hC  hq)) px_nocut))) (fun G Jf hG hJf => ?_)
  replace hs : oW (F_12051_45 (px_tb C) x0 x1 x3 x2 x4 σ) _ := hs
  unfold F_12051_45 at hs
  obtain ⟨hc0, hs⟩ := oW_gx hs
  obtain ⟨n1, hc1, hs⟩ := oW_bx hs
  obtain ⟨hc2, hs⟩ := oW_gx hs
  obtain ⟨n2, hc3, hs⟩ := oW_bx hs
  obtain ⟨hc4, hs⟩ := oW_gx hs
  by_cases hc5 : ((σ).1 n2 0) ≤ x4
  · replace hs := oW_t hs hc5
    simp (implicitDefEqProofs := false) only [↓hG, ↓hJf, ↓px_vc, ↓px_ex, ↓px_jp, ↓rq_gi_0, ↓rq_gi_S, ↓rq_gl_0, ↓rq_gl_S, ↓rq_gr_0, ↓rq_gr_S, ↓rq_s1_0, ↓rq_s1_1, ↓rq_s1_S, ↓rq_s2_0, ↓rq_s2_1, ↓rq_s2_S, ↓rq_nl_n, ↓rq_nl_i, ↓rq_nl_l, ↓rq_nl_r, ↓rq_i1_s, ↓rq_l1_s, ↓r1_s, ↓rq_q1_s, ↓rq_i2_s, ↓rq_l2_s, ↓rq_il_s, ↓rq_d0_s, ↓rq_d1_i, ↓rq_d1_r, ↓rq_d2_l, ↓rq_d2_ii, ↓rq_d2_ir, ↓px_pop, ↓px_sp, ↓px_rd, ↓px_rf, ↓pn_xf, ↓rq_pt_0, ↓rq_pt_1, ↓rq_pt_2, ↓rq_pt_3, ↓px_sw, ↓pn_SW, ↓px_ma, ↓reduceIte, Nat.reduceEqDiff, Nat.reduceAdd, Nat.reduceSub, ↓Option.toList_some, ↓Option.toList_none, ↓List.cons_append, ↓List.nil_append, ↓kI_s, ↓kJ_s, ↓kN_s, ↓kO_s, ↓kZ_s, ↓kE_s, ↓an_rfl, ↓bt1 n00, ↓bt2 n00, ↓bf1 n10, ↓bf2 n10, ↓an_sz0, ↓an_sz1, ↓an_sz2, ↓an_sz3, ↓an_sz4, ↓an_ri, ↓an_rb0, ↓an_rb1, ↓an_b0, ↓an_b1, true_and, ↓ai_0s, ↓al_0s, ↓av_0s, ↓aq_0s, ↓ai_1s, ↓al_1s, ↓av_1s, ↓aq_1s, ↓ai_2s, ↓al_2s, ↓av_2s, ↓aq_2s, ↓ai_3s, ↓al_3s, ↓av_3s, ↓aq_3s, ↓ai_4s, ↓al_4s, ↓av_4s, ↓aq_4s, ↓ai_5s, ↓al_5s, ↓av_5s, ↓aq_5s, ↓ai_6s, ↓al_6s, ↓av_6s, ↓aq_6s, ↓ai_7s, ↓al_7s, ↓av_7s, ↓aq_7s, ↓an_l5, ↓bk_12051, ↓Sg_11006, ↓kp_12051_26, ↓kp_12051_86, ↓kp_12051_105, ↓an_t hc0, ↓an_rv hc0, ↓r1_e hc1, ↓av_0e hc1, ↓av_1e hc1, ↓av_2e hc1, ↓av_3e hc1, ↓an_t hc2, ↓an_rv hc2, ↓an_rvo hc1 hc2, ↓r1_e hc3, ↓av_0e hc3, ↓av_1e hc3, ↓av_2e hc3, ↓av_3e hc3, ↓an_t hc4, ↓an_rv hc4, ↓an_rvo hc3 hc4, ↓bt1 hc5, ↓bt2 hc5]
    rw [oW_some] at hs
    exact hs
  · replace hs := oW_f hs hc5
    obtain ⟨n3, hc6, hs⟩ := oW_bx hs
    obtain ⟨t4, l5, hc7, hs⟩ := oW_ax hs
    obtain ⟨hc8, hs⟩ := oW_gx hs
    obtain ⟨hc9, hs⟩ := oW_gx hs
    by_cases hc10 : (px_av t4 σ n3 (x1).toNatClampNeg) ≤ x2
    · replace hs := oW_t hs hc10
      simp (implicitDefEqProofs := false) only [↓hG, ↓hJf, ↓px_vc, ↓px_ex, ↓px_jp, ↓rq_gi_0, ↓rq_gi_S, ↓rq_gl_0, ↓rq_gl_S, ↓rq_gr_0, ↓rq_gr_S, ↓rq_s1_0, ↓rq_s1_1, ↓rq_s1_S, ↓rq_s2_0, ↓rq_s2_1, ↓rq_s2_S, ↓rq_nl_n, ↓rq_nl_i, ↓rq_nl_l, ↓rq_nl_r, ↓rq_i1_s, ↓rq_l1_s, ↓r1_s, ↓rq_q1_s, ↓rq_i2_s, ↓rq_l2_s, ↓rq_il_s, ↓rq_d0_s, ↓rq_d1_i, ↓rq_d1_r, ↓rq_d2_l, ↓rq_d2_ii, ↓rq_d2_ir, ↓px_pop, ↓px_sp, ↓px_rd, ↓px_rf, ↓pn_xf, ↓rq_pt_0, ↓rq_pt_1, ↓rq_pt_2, ↓rq_pt_3, ↓px_sw, ↓pn_SW, ↓px_ma, ↓reduceIte, Nat.reduceEqDiff, Nat.reduceAdd, Nat.reduceSub, ↓Option.toList_some, ↓Option.toList_none, ↓List.cons_append, ↓List.nil_append, ↓kI_s, ↓kJ_s, ↓kN_s, ↓kO_s, ↓kZ_s, ↓kE_s, ↓an_rfl, ↓bt1 n00, ↓bt2 n00, ↓bf1 n10, ↓bf2 n10, ↓an_sz0, ↓an_sz1, ↓an_sz2, ↓an_sz3, ↓an_sz4, ↓an_ri, ↓an_rb0, ↓an_rb1, ↓an_b0, ↓an_b1, true_and, ↓ai_0s, ↓al_0s, ↓av_0s, ↓aq_0s, ↓ai_1s, ↓al_1s, ↓av_1s, ↓aq_1s, ↓ai_2s, ↓al_2s, ↓av_2s, ↓aq_2s, ↓ai_3s, ↓al_3s, ↓av_3s, ↓aq_3s, ↓ai_4s, ↓al_4s, ↓av_4s, ↓aq_4s, ↓ai_5s, ↓al_5s, ↓av_5s, ↓aq_5s, ↓ai_6s, ↓al_6s, ↓av_6s, ↓aq_6s, ↓ai_7s, ↓al_7s, ↓av_7s, ↓aq_7s, ↓an_l5, ↓bk_12051, ↓Sg_11006, ↓kp_12051_26, ↓kp_12051_86, ↓kp_12051_105, ↓an_t hc0, ↓an_rv hc0, ↓r1_e hc1, ↓av_0e hc1, ↓av_1e hc1, ↓av_2e hc1, ↓av_3e hc1, ↓an_t hc2, ↓an_rv hc2, ↓an_rvo hc1 hc2, ↓r1_e hc3, ↓av_0e hc3, ↓av_1e hc3, ↓av_2e hc3, ↓av_3e hc3, ↓an_t hc4, ↓an_rv hc4, ↓an_rvo hc3 hc4, ↓bf1 hc5, ↓bf2 hc5, ↓r1_e hc6, ↓av_0e hc6, ↓av_1e hc6, ↓av_2e hc6, ↓av_3e hc6, ↓ar_e hc7, ↓an_t hc8, ↓an_t hc9, ↓bt1 hc10, ↓bt2 hc10]
      exact hs
    · replace hs := oW_f hs hc10
      obtain ⟨r6, hc11, hs⟩ := oW_bx hs
      by_cases hc12 : r6 = nI 0
      · replace hs := oW_t hs hc12
        simp (implicitDefEqProofs := false) only [↓hG, ↓hJf, ↓px_vc, ↓px_ex, ↓px_jp, ↓rq_gi_0, ↓rq_gi_S, ↓rq_gl_0, ↓rq_gl_S, ↓rq_gr_0, ↓rq_gr_S, ↓rq_s1_0, ↓rq_s1_1, ↓rq_s1_S, ↓rq_s2_0, ↓rq_s2_1, ↓rq_s2_S, ↓rq_nl_n, ↓rq_nl_i, ↓rq_nl_l, ↓rq_nl_r, ↓rq_i1_s, ↓rq_l1_s, ↓r1_s, ↓rq_q1_s, ↓rq_i2_s, ↓rq_l2_s, ↓rq_il_s, ↓rq_d0_s, ↓rq_d1_i, ↓rq_d1_r, ↓rq_d2_l, ↓rq_d2_ii, ↓rq_d2_ir, ↓px_pop, ↓px_sp, ↓px_rd, ↓px_rf, ↓pn_xf, ↓rq_pt_0, ↓rq_pt_1, ↓rq_pt_2, ↓rq_pt_3, ↓px_sw, ↓pn_SW, ↓px_ma, ↓reduceIte, Nat.reduceEqDiff, Nat.reduceAdd, Nat.reduceSub, ↓Option.toList_some, ↓Option.toList_none, ↓List.cons_append, ↓List.nil_append, ↓kI_s, ↓kJ_s, ↓kN_s, ↓kO_s, ↓kZ_s, ↓kE_s, ↓an_rfl, ↓bt1 n00, ↓bt2 n00, ↓bf1 n10, ↓bf2 n10, ↓an_sz0, ↓an_sz1, ↓an_sz2, ↓an_sz3, ↓an_sz4, ↓an_ri, ↓an_rb0, ↓an_rb1, ↓an_b0, ↓an_b1, true_and, ↓ai_0s, ↓al_0s, ↓av_0s, ↓aq_0s, ↓ai_1s, ↓al_1s, ↓av_1s, ↓aq_1s, ↓ai_2s, ↓al_2s, ↓av_2s, ↓aq_2s, ↓ai_3s, ↓al_3s, ↓av_3s, ↓aq_3s, ↓ai_4s, ↓al_4s, ↓av_4s, ↓aq_4s, ↓ai_5s, ↓al_5s, ↓av_5s, ↓aq_5s, ↓ai_6s, ↓al_6s, ↓av_6s, ↓aq_6s, ↓ai_7s, ↓al_7s, ↓av_7s, ↓aq_7s, ↓an_l5, ↓bk_12051, ↓Sg_11006, ↓kp_12051_26, ↓kp_12051_86, ↓kp_12051_105, ↓an_t hc0, ↓an_rv hc0, ↓r1_e hc1, ↓av_0e hc1, ↓av_1e hc1, ↓av_2e hc1, ↓av_3e hc1, ↓an_t hc2, ↓an_rv hc2, ↓an_rvo hc1 hc2, ↓r1_e hc3, ↓av_0e hc3, ↓av_1e hc3, ↓av_2e hc3, ↓av_3e hc3, ↓an_t hc4, ↓an_rv hc4, ↓an_rvo hc3 hc4, ↓bf1 hc5, ↓bf2 hc5, ↓r1_e hc6, ↓av_0e hc6, ↓av_1e hc6, ↓av_2e hc6, ↓av_3e hc6, ↓ar_e hc7, ↓an_t hc8, ↓an_t hc9, ↓bf1 hc10, ↓bf2 hc10, ↓oW_e hc11, ↓bt1 hc12, ↓bt2 hc12]
        exact hs
      · replace hs := oW_f hs hc12
        simp (implicitDefEqProofs := false) only [↓hG, ↓hJf, ↓px_vc, ↓px_ex, ↓px_jp, ↓rq_gi_0, ↓rq_gi_S, ↓rq_gl_0, ↓rq_gl_S, ↓rq_gr_0, ↓rq_gr_S, ↓rq_s1_0, ↓rq_s1_1, ↓rq_s1_S, ↓rq_s2_0, ↓rq_s2_1, ↓rq_s2_S, ↓rq_nl_n, ↓rq_nl_i, ↓rq_nl_l, ↓rq_nl_r, ↓rq_i1_s, ↓rq_l1_s, ↓r1_s, ↓rq_q1_s, ↓rq_i2_s, ↓rq_l2_s, ↓rq_il_s, ↓rq_d0_s, ↓rq_d1_i, ↓rq_d1_r, ↓rq_d2_l, ↓rq_d2_ii, ↓rq_d2_ir, ↓px_pop, ↓px_sp, ↓px_rd, ↓px_rf, ↓pn_xf, ↓rq_pt_0, ↓rq_pt_1, ↓rq_pt_2, ↓rq_pt_3, ↓px_sw, ↓pn_SW, ↓px_ma, ↓reduceIte, Nat.reduceEqDiff, Nat.reduceAdd, Nat.reduceSub, ↓Option.toList_some, ↓Option.toList_none, ↓List.cons_append, ↓List.nil_append, ↓kI_s, ↓kJ_s, ↓kN_s, ↓kO_s, ↓kZ_s, ↓kE_s, ↓an_rfl, ↓bt1 n00, ↓bt2 n00, ↓bf1 n10, ↓bf2 n10, ↓an_sz0, ↓an_sz1, ↓an_sz2, ↓an_sz3, ↓an_sz4, ↓an_ri, ↓an_rb0, ↓an_rb1, ↓an_b0, ↓an_b1, true_and, ↓ai_0s, ↓al_0s, ↓av_0s, ↓aq_0s, ↓ai_1s, ↓al_1s, ↓av_1s, ↓aq_1s, ↓ai_2s, ↓al_2s, ↓av_2s, ↓aq_2s, ↓ai_3s, ↓al_3s, ↓av_3s, ↓aq_3s, ↓ai_4s, ↓al_4s, ↓av_4s, ↓aq_4s, ↓ai_5s, ↓al_5s, ↓av_5s, ↓aq_5s, ↓ai_6s, ↓al_6s, ↓av_6s, ↓aq_6s, ↓ai_7s, ↓al_7s, ↓av_7s, ↓aq_7s, ↓an_l5, ↓bk_12051, ↓Sg_11006, ↓kp_12051_26, ↓kp_12051_86, ↓kp_12051_105, ↓an_t hc0, ↓an_rv hc0, ↓r1_e hc1, ↓av_0e hc1, ↓av_1e hc1, ↓av_2e hc1, ↓av_3e hc1, ↓an_t hc2, ↓an_rv hc2, ↓an_rvo hc1 hc2, ↓r1_e hc3, ↓av_0e hc3, ↓av_1e hc3, ↓av_2e hc3, ↓av_3e hc3, ↓an_t hc4, ↓an_rv hc4, ↓an_rvo hc3 hc4, ↓bf1 hc5, ↓bf2 hc5, ↓r1_e hc6, ↓av_0e hc6, ↓av_1e hc6, ↓av_2e hc6, ↓av_3e hc6, ↓ar_e hc7, ↓an_t hc8, ↓an_t hc9, ↓bf1 hc10, ↓bf2 hc10, ↓oW_e hc11, ↓bf1 hc12, ↓bf2 hc12]
        exact hs
set_option maxHeartbeats 4000000 in
set_option maxRecDepth 100000 in
theorem rl_12051_26 {C : px_C} (hn : px_nd (px_tb C)) {h : Nat} (hh : 3 ≤ h) (hC : px_ok C pn_i12051 h) {k : Option px_V → px_M → Prop} {x0 : Nat} {x1 : Int32} : ∀ s : Int32 × Int32 × px_M, oW (f_12051_26 (px_tb C) x0 x1 s.1 s.2.1 s.2.2) (fun q => k (some (.inl q.1)) q.2) → (fun s : Int32 × Int32 × px_M => ∀ (z4 : Option px_V), px_W C k 26 [some (.inr (.inr (some x0))), some (.inl x1), some (.inl s.1), some (.inl s.2.1), z4] [] s.2.2) s := by
  intro s h0
  refine lpO_sound (P := (fun s : Int32 × Int32 × px_M => ∀ (z4 : Option px_V), px_W C k 26 [some (.inr (.inr (some x0))), some (.inl x1), some (.inl s.1), some (.inl s.2.1), z4] [] s.2.2)) (fun s hs => ?_) h0
  obtain ⟨x2, x3, σ⟩ := s
  intro z4
  refine px_runH (h - 1) ck_12051 [] [(45, kp_12051_45 (fun y0 y1 y2 y3 y4 τ => y0 = x0 ∧ y1 = x1 ∧ oW (f_12051_45 (px_tb C) y0 y1 y3 y2 y4 τ) (Sum.elim (fun s : Int32 × Int32 × px_M => ∀ (z4 : Option px_V), px_W C k 26 [some (.inr (.inr (some x0))), some (.inl x1), some (.inl s.1), some (.inl s.2.1), z4] [] s.2.2) (fun q => k (some (.inl q.1)) q.2))))] 80 5 (some .int) rfl rfl hC px_nosp (by omega) (px_cut1 (kq_12051_45 (fun y0 y1 y2 y3 y4 τ hq => by obtain ⟨rfl, rfl, hq⟩ := hq; exact rl_12051_45 hn (by omega) hC (y2, y4, τ) hq)) px_nocut) (fun G Jf hG hJf => ?_)
  replace hs : oW (F_12051_26 (px_tb C) x0 x1 x2 x3 σ) _ := hs
  unfold F_12051_26 at hs
  obtain ⟨hc0, hs⟩ := oW_gx hs
  obtain ⟨n1, hc1, hs⟩ := oW_bx hs
  obtain ⟨hc2, hs⟩ := oW_gx hs
  obtain ⟨n2, hc3, hs⟩ := oW_bx hs
  obtain ⟨hc4, hs⟩ := oW_gx hs
  by_cases hc5 : ((σ).1 n2 0) ≤ x3
  · replace hs := oW_t hs hc5
    simp (implicitDefEqProofs := false) only [↓hG, ↓hJf, ↓px_vc, ↓px_ex, ↓px_jp, ↓rq_gi_0, ↓rq_gi_S, ↓rq_gl_0, ↓rq_gl_S, ↓rq_gr_0, ↓rq_gr_S, ↓rq_s1_0, ↓rq_s1_1, ↓rq_s1_S, ↓rq_s2_0, ↓rq_s2_1, ↓rq_s2_S, ↓rq_nl_n, ↓rq_nl_i, ↓rq_nl_l, ↓rq_nl_r, ↓rq_i1_s, ↓rq_l1_s, ↓r1_s, ↓rq_q1_s, ↓rq_i2_s, ↓rq_l2_s, ↓rq_il_s, ↓rq_d0_s, ↓rq_d1_i, ↓rq_d1_r, ↓rq_d2_l, ↓rq_d2_ii, ↓rq_d2_ir, ↓px_pop, ↓px_sp, ↓px_rd, ↓px_rf, ↓pn_xf, ↓rq_pt_0, ↓rq_pt_1, ↓rq_pt_2, ↓rq_pt_3, ↓px_sw, ↓pn_SW, ↓px_ma, ↓reduceIte, Nat.reduceEqDiff, Nat.reduceAdd, Nat.reduceSub, ↓Option.toList_some, ↓Option.toList_none, ↓List.cons_append, ↓List.nil_append, ↓kI_s, ↓kJ_s, ↓kN_s, ↓kO_s, ↓kZ_s, ↓kE_s, ↓an_rfl, ↓bt1 n00, ↓bt2 n00, ↓bf1 n10, ↓bf2 n10, ↓an_sz0, ↓an_sz1, ↓an_sz2, ↓an_sz3, ↓an_sz4, ↓an_ri, ↓an_rb0, ↓an_rb1, ↓an_b0, ↓an_b1, true_and, ↓ai_0s, ↓al_0s, ↓av_0s, ↓aq_0s, ↓ai_1s, ↓al_1s, ↓av_1s, ↓aq_1s, ↓ai_2s, ↓al_2s, ↓av_2s, ↓aq_2s, ↓ai_3s, ↓al_3s, ↓av_3s, ↓aq_3s, ↓ai_4s, ↓al_4s, ↓av_4s, ↓aq_4s, ↓ai_5s, ↓al_5s, ↓av_5s, ↓aq_5s, ↓ai_6s, ↓al_6s, ↓av_6s, ↓aq_6s, ↓ai_7s, ↓al_7s, ↓av_7s, ↓aq_7s, ↓an_l5, ↓bk_12051, ↓kp_12051_45, ↓an_t hc0, ↓an_rv hc0, ↓r1_e hc1, ↓av_0e hc1, ↓av_1e hc1, ↓av_2e hc1, ↓av_3e hc1, ↓an_t hc2, ↓an_rv hc2, ↓an_rvo hc1 hc2, ↓r1_e hc3, ↓av_0e hc3, ↓av_1e hc3, ↓av_2e hc3, ↓av_3e hc3, ↓an_t hc4, ↓an_rv hc4, ↓an_rvo hc3 hc4, ↓bt1 hc5, ↓bt2 hc5]
    rw [oW_some] at hs
    exact hs
  · replace hs := oW_f hs hc5
    simp (implicitDefEqProofs := false) only [↓hG, ↓hJf, ↓px_vc, ↓px_ex, ↓px_jp, ↓rq_gi_0, ↓rq_gi_S, ↓rq_gl_0, ↓rq_gl_S, ↓rq_gr_0, ↓rq_gr_S, ↓rq_s1_0, ↓rq_s1_1, ↓rq_s1_S, ↓rq_s2_0, ↓rq_s2_1, ↓rq_s2_S, ↓rq_nl_n, ↓rq_nl_i, ↓rq_nl_l, ↓rq_nl_r, ↓rq_i1_s, ↓rq_l1_s, ↓r1_s, ↓rq_q1_s, ↓rq_i2_s, ↓rq_l2_s, ↓rq_il_s, ↓rq_d0_s, ↓rq_d1_i, ↓rq_d1_r, ↓rq_d2_l, ↓rq_d2_ii, ↓rq_d2_ir, ↓px_pop, ↓px_sp, ↓px_rd, ↓px_rf, ↓pn_xf, ↓rq_pt_0, ↓rq_pt_1, ↓rq_pt_2, ↓rq_pt_3, ↓px_sw, ↓pn_SW, ↓px_ma, ↓reduceIte, Nat.reduceEqDiff, Nat.reduceAdd, Nat.reduceSub, ↓Option.toList_some, ↓Option.toList_none, ↓List.cons_append, ↓List.nil_append, ↓kI_s, ↓kJ_s, ↓kN_s, ↓kO_s, ↓kZ_s, ↓kE_s, ↓an_rfl, ↓bt1 n00, ↓bt2 n00, ↓bf1 n10, ↓bf2 n10, ↓an_sz0, ↓an_sz1, ↓an_sz2, ↓an_sz3, ↓an_sz4, ↓an_ri, ↓an_rb0, ↓an_rb1, ↓an_b0, ↓an_b1, true_and, ↓ai_0s, ↓al_0s, ↓av_0s, ↓aq_0s, ↓ai_1s, ↓al_1s, ↓av_1s, ↓aq_1s, ↓ai_2s, ↓al_2s, ↓av_2s, ↓aq_2s, ↓ai_3s, ↓al_3s, ↓av_3s, ↓aq_3s, ↓ai_4s, ↓al_4s, ↓av_4s, ↓aq_4s, ↓ai_5s, ↓al_5s, ↓av_5s, ↓aq_5s, ↓ai_6s, ↓al_6s, ↓av_6s, ↓aq_6s, ↓ai_7s, ↓al_7s, ↓av_7s, ↓aq_7s, ↓an_l5, ↓bk_12051, ↓kp_12051_45, ↓an_t hc0, ↓an_rv hc0, ↓r1_e hc1, ↓av_0e hc1, ↓av_1e hc1, ↓av_2e hc1, ↓av_3e hc1, ↓an_t hc2, ↓an_rv hc2, ↓an_rvo hc1 hc2, ↓r1_e hc3, ↓av_0e hc3, ↓av_1e hc3, ↓av_2e hc3, ↓av_3e hc3, ↓an_t hc4, ↓an_rv hc4, ↓an_rvo hc3 hc4, ↓bf1 hc5, ↓bf2 hc5]
    exact hs
set_option maxHeartbeats 4000000 in
set_option maxRecDepth 100000 in
theorem mf_12051 {tab : px_T} (hn : px_nd tab) {h : Nat} (hh : 3 ≤ h) : px_Ok tab pn_i12051 h (Sg_12051 (f_12051 tab)) := by
  refine px_mth hn (by decide +kernel) (fun av σ k hS => ?_) (fun C hT hC av σ k hS => ?_)
  · obtain ⟨x0, av0, e0, h0⟩ := av_0p hS
    obtain ⟨x1, av1, e1, h1⟩ := ai_1p h0
    obtain ⟨ez, hs⟩ := h1
    subst ez
    subst e1
    subst e0
    exact Nat.le_of_ble_eq_true rfl
  · obtain ⟨x0, av0, e0, h0⟩ := av_0p hS
    obtain ⟨x1, av1, e1, h1⟩ := ai_1p h0
    obtain ⟨ez, hs⟩ := h1
    subst ez
    subst e1
    subst e0
    subst hT
    show px_W C k 0 [some (.inr (.inr (some x0))), some (.inl x1), none, none, none] [] σ
    refine px_runH (h - 1) ck_12051 [(12055, Sg_12055 (f_12055 (px_tb C)))] [(26, kp_12051_26 (fun y0 y1 y2 y3 τ => oW (f_12051_26 (px_tb C) y0 y1 y2 y3 τ) (fun q => k (some (.inl q.1)) q.2)))] 80 5 (some .int) rfl rfl hC (px_sp1 (mf_12055 hn (by omega)) px_nosp) (by omega) (px_cut1 (kq_12051_26 (fun y0 y1 y2 y3 τ hq => by exact rl_12051_26 hn (by omega) hC (y2, y3, τ) hq)) px_nocut) (fun G Jf hG hJf => ?_)
    unfold f_12051 at hs
    obtain ⟨r1, hc0, hs⟩ := oW_bx hs
    by_cases hc1 : r1 = nI 0
    · replace hs := bW_t hs hc1
      simp (implicitDefEqProofs := false) only [↓hG, ↓hJf, ↓px_vc, ↓px_ex, ↓px_jp, ↓rq_gi_0, ↓rq_gi_S, ↓rq_gl_0, ↓rq_gl_S, ↓rq_gr_0, ↓rq_gr_S, ↓rq_s1_0, ↓rq_s1_1, ↓rq_s1_S, ↓rq_s2_0, ↓rq_s2_1, ↓rq_s2_S, ↓rq_nl_n, ↓rq_nl_i, ↓rq_nl_l, ↓rq_nl_r, ↓rq_i1_s, ↓rq_l1_s, ↓r1_s, ↓rq_q1_s, ↓rq_i2_s, ↓rq_l2_s, ↓rq_il_s, ↓rq_d0_s, ↓rq_d1_i, ↓rq_d1_r, ↓rq_d2_l, ↓rq_d2_ii, ↓rq_d2_ir, ↓px_pop, ↓px_sp, ↓px_rd, ↓px_rf, ↓pn_xf, ↓rq_pt_0, ↓rq_pt_1, ↓rq_pt_2, ↓rq_pt_3, ↓px_sw, ↓pn_SW, ↓px_ma, ↓reduceIte, Nat.reduceEqDiff, Nat.reduceAdd, Nat.reduceSub, ↓Option.toList_some, ↓Option.toList_none, ↓List.cons_append, ↓List.nil_append, ↓kI_s, ↓kJ_s, ↓kN_s, ↓kO_s, ↓kZ_s, ↓kE_s, ↓an_rfl, ↓bt1 n00, ↓bt2 n00, ↓bf1 n10, ↓bf2 n10, ↓an_sz0, ↓an_sz1, ↓an_sz2, ↓an_sz3, ↓an_sz4, ↓an_ri, ↓an_rb0, ↓an_rb1, ↓an_b0, ↓an_b1, true_and, ↓ai_0s, ↓al_0s, ↓av_0s, ↓aq_0s, ↓ai_1s, ↓al_1s, ↓av_1s, ↓aq_1s, ↓ai_2s, ↓al_2s, ↓av_2s, ↓aq_2s, ↓ai_3s, ↓al_3s, ↓av_3s, ↓aq_3s, ↓ai_4s, ↓al_4s, ↓av_4s, ↓aq_4s, ↓ai_5s, ↓al_5s, ↓av_5s, ↓aq_5s, ↓ai_6s, ↓al_6s, ↓av_6s, ↓aq_6s, ↓ai_7s, ↓al_7s, ↓av_7s, ↓aq_7s, ↓an_l5, ↓bk_12051, ↓Sg_12055, ↓kp_12051_26, ↓oW_e hc0, ↓bt1 hc1, ↓bt2 hc1]
      rw [oW_some] at hs
      exact hs
    · replace hs := bW_f hs hc1
      obtain ⟨hc2, hs⟩ := oW_gx hs
      obtain ⟨n2, hc3, hs⟩ := oW_bx hs
      obtain ⟨t3, l4, hc4, hs⟩ := oW_ax hs
      obtain ⟨hc5, hs⟩ := oW_gx hs
      obtain ⟨hc6, hs⟩ := oW_gx hs
      by_cases hc7 : nI 0 ≤ (px_av t3 σ n2 (x1).toNatClampNeg)
      · replace hs := oW_t hs hc7
        simp (implicitDefEqProofs := false) only [↓hG, ↓hJf, ↓px_vc, ↓px_ex, ↓px_jp, ↓rq_gi_0, ↓rq_gi_S, ↓rq_gl_0, ↓rq_gl_S, ↓rq_gr_0, ↓rq_gr_S, ↓rq_s1_0, ↓rq_s1_1, ↓rq_s1_S, ↓rq_s2_0, ↓rq_s2_1, ↓rq_s2_S, ↓rq_nl_n, ↓rq_nl_i, ↓rq_nl_l, ↓rq_nl_r, ↓rq_i1_s, ↓rq_l1_s, ↓r1_s, ↓rq_q1_s, ↓rq_i2_s, ↓rq_l2_s, ↓rq_il_s, ↓rq_d0_s, ↓rq_d1_i, ↓rq_d1_r, ↓rq_d2_l, ↓rq_d2_ii, ↓rq_d2_ir, ↓px_pop, ↓px_sp, ↓px_rd, ↓px_rf, ↓pn_xf, ↓rq_pt_0, ↓rq_pt_1, ↓rq_pt_2, ↓rq_pt_3, ↓px_sw, ↓pn_SW, ↓px_ma, ↓reduceIte, Nat.reduceEqDiff, Nat.reduceAdd, Nat.reduceSub, ↓Option.toList_some, ↓Option.toList_none, ↓List.cons_append, ↓List.nil_append, ↓kI_s, ↓kJ_s, ↓kN_s, ↓kO_s, ↓kZ_s, ↓kE_s, ↓an_rfl, ↓bt1 n00, ↓bt2 n00, ↓bf1 n10, ↓bf2 n10, ↓an_sz0, ↓an_sz1, ↓an_sz2, ↓an_sz3, ↓an_sz4, ↓an_ri, ↓an_rb0, ↓an_rb1, ↓an_b0, ↓an_b1, true_and, ↓ai_0s, ↓al_0s, ↓av_0s, ↓aq_0s, ↓ai_1s, ↓al_1s, ↓av_1s, ↓aq_1s, ↓ai_2s, ↓al_2s, ↓av_2s, ↓aq_2s, ↓ai_3s, ↓al_3s, ↓av_3s, ↓aq_3s, ↓ai_4s, ↓al_4s, ↓av_4s, ↓aq_4s, ↓ai_5s, ↓al_5s, ↓av_5s, ↓aq_5s, ↓ai_6s, ↓al_6s, ↓av_6s, ↓aq_6s, ↓ai_7s, ↓al_7s, ↓av_7s, ↓aq_7s, ↓an_l5, ↓bk_12051, ↓Sg_12055, ↓kp_12051_26, ↓oW_e hc0, ↓bf1 hc1, ↓bf2 hc1, ↓an_t hc2, ↓an_rv hc2, ↓r1_e hc3, ↓av_0e hc3, ↓av_1e hc3, ↓av_2e hc3, ↓av_3e hc3, ↓ar_e hc4, ↓an_t hc5, ↓an_t hc6, ↓bt1 hc7, ↓bt2 hc7]
        exact hs
      · replace hs := oW_f hs hc7
        simp (implicitDefEqProofs := false) only [↓hG, ↓hJf, ↓px_vc, ↓px_ex, ↓px_jp, ↓rq_gi_0, ↓rq_gi_S, ↓rq_gl_0, ↓rq_gl_S, ↓rq_gr_0, ↓rq_gr_S, ↓rq_s1_0, ↓rq_s1_1, ↓rq_s1_S, ↓rq_s2_0, ↓rq_s2_1, ↓rq_s2_S, ↓rq_nl_n, ↓rq_nl_i, ↓rq_nl_l, ↓rq_nl_r, ↓rq_i1_s, ↓rq_l1_s, ↓r1_s, ↓rq_q1_s, ↓rq_i2_s, ↓rq_l2_s, ↓rq_il_s, ↓rq_d0_s, ↓rq_d1_i, ↓rq_d1_r, ↓rq_d2_l, ↓rq_d2_ii, ↓rq_d2_ir, ↓px_pop, ↓px_sp, ↓px_rd, ↓px_rf, ↓pn_xf, ↓rq_pt_0, ↓rq_pt_1, ↓rq_pt_2, ↓rq_pt_3, ↓px_sw, ↓pn_SW, ↓px_ma, ↓reduceIte, Nat.reduceEqDiff, Nat.reduceAdd, Nat.reduceSub, ↓Option.toList_some, ↓Option.toList_none, ↓List.cons_append, ↓List.nil_append, ↓kI_s, ↓kJ_s, ↓kN_s, ↓kO_s, ↓kZ_s, ↓kE_s, ↓an_rfl, ↓bt1 n00, ↓bt2 n00, ↓bf1 n10, ↓bf2 n10, ↓an_sz0, ↓an_sz1, ↓an_sz2, ↓an_sz3, ↓an_sz4, ↓an_ri, ↓an_rb0, ↓an_rb1, ↓an_b0, ↓an_b1, true_and, ↓ai_0s, ↓al_0s, ↓av_0s, ↓aq_0s, ↓ai_1s, ↓al_1s, ↓av_1s, ↓aq_1s, ↓ai_2s, ↓al_2s, ↓av_2s, ↓aq_2s, ↓ai_3s, ↓al_3s, ↓av_3s, ↓aq_3s, ↓ai_4s, ↓al_4s, ↓av_4s, ↓aq_4s, ↓ai_5s, ↓al_5s, ↓av_5s, ↓aq_5s, ↓ai_6s, ↓al_6s, ↓av_6s, ↓aq_6s, ↓ai_7s, ↓al_7s, ↓av_7s, ↓aq_7s, ↓an_l5, ↓bk_12051, ↓Sg_12055, ↓kp_12051_26, ↓oW_e hc0, ↓bf1 hc1, ↓bf2 hc1, ↓an_t hc2, ↓an_rv hc2, ↓r1_e hc3, ↓av_0e hc3, ↓av_1e hc3, ↓av_2e hc3, ↓av_3e hc3, ↓ar_e hc4, ↓an_t hc5, ↓an_t hc6, ↓bf1 hc7, ↓bf2 hc7]
        rw [oW_some] at hs
        exact hs
