/-! shallow functions, printed by wip/whole/decomp.py -/
def Sg_8008 (g : px_M → Nat → Nat → Int32 → Option (Int64 × px_M)) : px_S := fun av σ k => av_0 av (fun x0 av => av_1 av (fun x1 av => ai_2 av (fun x2 av => av = [] ∧ oW (g σ x0 x1 x2) (fun q => k (some (.inr (.inl q.1))) q.2))))
/-- NoThree$Painter.waysWith(LNoThree$Town;I)J -/
noncomputable def F_8008_2 (tab : px_T) (x0 : Nat) (x1 : Nat) (x2 : Int32) (x3 : Int32) (σ : px_M) : Option ((Int32 × px_M) ⊕ (Int64 × px_M)) := if (nI 11) ≤ x3 then (gd (px_obj (px_lay tab x1) 11) ((f_11004 tab σ x1).bind fun r1 => gd (px_obj (px_lay tab x0) 8) ((f_8009 tab 24 σ x0 ((nI 0)) r1 x2).bind fun q2 => some (.inr ((q2.1, q2.2)))))) else (gd (px_obj (px_lay tab x0) 8) (gd (px_obj (px_lay tab x1) 11) ((((σ).2.2 x1 1)).bind fun n3 => oA (px_lay tab n3) fun t4 l5 => gd (t4 = 0 ∨ t4 = 11) (gd (vp_in x3 l5) ((((σ).2.2 x0 1)).bind fun n6 => oA (px_lay tab n6) fun t7 l8 => gd (t7 = 0) (gd (vp_in x3 l8) (some (.inl (((x3 + (nI 1)), (px_wi σ n6 (x3).toNatClampNeg (px_av t4 σ n3 (x3).toNatClampNeg))))))))))))
noncomputable def f_8008_2 (tab : px_T) (x0 : Nat) (x1 : Nat) (x2 : Int32) (x3 : Int32) (σ : px_M) : Option (Int64 × px_M) := lpO (fun s : Int32 × px_M => F_8008_2 tab x0 x1 x2 s.1 s.2) (x3, σ)
theorem f_8008_2_eq (tab : px_T) (x0 : Nat) (x1 : Nat) (x2 : Int32) (x3 : Int32) (σ : px_M) : f_8008_2 tab x0 x1 x2 x3 σ = (F_8008_2 tab x0 x1 x2 x3 σ).bind (Sum.elim (fun s => f_8008_2 tab x0 x1 x2 s.1 s.2) some) := lpO_eq _ _
noncomputable def f_8008 (tab : px_T) (σ : px_M) (x0 : Nat) (x1 : Nat) (x2 : Int32) : Option (Int64 × px_M) := f_8008_2 tab x0 x1 x2 ((nI 0)) σ
def kp_8008_2 (Q : Nat → Nat → Int32 → Int32 → px_M → Prop) : px_P := fun ls st τ => st = [] ∧ kN ls (fun x0 ls => kN ls (fun x1 ls => kI ls (fun x2 ls => kI ls (fun x3 ls => kE ls (Q x0 x1 x2 x3 τ)))))
theorem kq_8008_2 {C : px_C} {k : Option px_V → px_M → Prop} {Q : Nat → Nat → Int32 → Int32 → px_M → Prop} (H : ∀ (x0 : Nat) (x1 : Nat) (x2 : Int32) (x3 : Int32) (τ : px_M), Q x0 x1 x2 x3 τ → px_W C k 2 [some (.inr (.inr (some x0))), some (.inr (.inr (some x1))), some (.inl x2), some (.inl x3)] [] τ) : ∀ ls st τ, kp_8008_2 Q ls st τ → px_W C k 2 ls st τ := by
  intro ls st τ hz
  obtain ⟨ez, h0⟩ := hz
  obtain ⟨x0, l0, e0, h1⟩ := kN_sp h0
  obtain ⟨x1, l1, e1, h2⟩ := kN_sp h1
  obtain ⟨x2, l2, e2, h3⟩ := kI_sp h2
  obtain ⟨x3, l3, e3, h4⟩ := kI_sp h3
  obtain ⟨ey, hy⟩ := kE_sp h4
  subst ez
  subst ey
  subst e3
  subst e2
  subst e1
  subst e0
  exact H x0 x1 x2 x3 τ hy
set_option maxHeartbeats 4000000 in
set_option maxRecDepth 100000 in
theorem rl_8008_2 {C : px_C} (hn : px_nd (px_tb C)) {h : Nat} (hh : 29 ≤ h) (hC : px_ok C pn_i8008 h) {k : Option px_V → px_M → Prop} {x0 : Nat} {x1 : Nat} {x2 : Int32} : ∀ s : Int32 × px_M, oW (f_8008_2 (px_tb C) x0 x1 x2 s.1 s.2) (fun q => k (some (.inr (.inl q.1))) q.2) → (fun s : Int32 × px_M => px_W C k 2 [some (.inr (.inr (some x0))), some (.inr (.inr (some x1))), some (.inl x2), some (.inl s.1)] [] s.2) s := by
  intro s h0
  refine lpO_sound (P := (fun s : Int32 × px_M => px_W C k 2 [some (.inr (.inr (some x0))), some (.inr (.inr (some x1))), some (.inl x2), some (.inl s.1)] [] s.2)) (fun s hs => ?_) h0
  obtain ⟨x3, σ⟩ := s
  refine px_runH (h - 1) ck_8008 [(8009, Sg_8009 (f_8009 (px_tb C) 24)), (11004, Sg_11004 (f_11004 (px_tb C)))] [(2, kp_8008_2 (fun y0 y1 y2 y3 τ => y0 = x0 ∧ y1 = x1 ∧ y2 = x2 ∧ (fun s : Int32 × px_M => px_W C k 2 [some (.inr (.inr (some x0))), some (.inr (.inr (some x1))), some (.inl x2), some (.inl s.1)] [] s.2) (y3, τ)))] 80 4 (some .long) rfl rfl hC (px_sp1 (mf_8009 hn (by omega)) (px_sp1 (mf_11004 hn (by omega)) px_nosp)) (by omega) (px_cut1 (kq_8008_2 (fun y0 y1 y2 y3 τ hq => by obtain ⟨rfl, rfl, rfl, hq⟩ := hq; exact hq)) px_nocut) (fun G Jf hG hJf => ?_)
  replace hs : oW (F_8008_2 (px_tb C) x0 x1 x2 x3 σ) _ := hs
  unfold F_8008_2 at hs
  by_cases hc0 : (nI 11) ≤ x3
  · replace hs := oW_t hs hc0
    obtain ⟨hc1, hs⟩ := oW_gx hs
    obtain ⟨r1, hc2, hs⟩ := oW_bx hs
    obtain ⟨hc3, hs⟩ := oW_gx hs
    obtain ⟨q2, hc4, hs⟩ := oW_bx hs
    simp (implicitDefEqProofs := false) only [↓hG, ↓hJf, ↓px_vc, ↓px_ex, ↓px_jp, ↓rq_gi_0, ↓rq_gi_S, ↓rq_gl_0, ↓rq_gl_S, ↓rq_gr_0, ↓rq_gr_S, ↓rq_s1_0, ↓rq_s1_1, ↓rq_s1_S, ↓rq_s2_0, ↓rq_s2_1, ↓rq_s2_S, ↓rq_nl_n, ↓rq_nl_i, ↓rq_nl_l, ↓rq_nl_r, ↓rq_i1_s, ↓rq_l1_s, ↓r1_s, ↓rq_q1_s, ↓rq_i2_s, ↓rq_l2_s, ↓rq_il_s, ↓rq_d0_s, ↓rq_d1_i, ↓rq_d1_r, ↓rq_d2_l, ↓rq_d2_ii, ↓rq_d2_ir, ↓px_pop, ↓px_sp, ↓px_rd, ↓px_rf, ↓pn_xf, ↓rq_pt_0, ↓rq_pt_1, ↓rq_pt_2, ↓rq_pt_3, ↓px_sw, ↓pn_SW, ↓px_ma, ↓reduceIte, Nat.reduceEqDiff, Nat.reduceAdd, Nat.reduceSub, ↓Option.toList_some, ↓Option.toList_none, ↓List.cons_append, ↓List.nil_append, ↓kI_s, ↓kJ_s, ↓kN_s, ↓kO_s, ↓kZ_s, ↓kE_s, ↓an_rfl, ↓bt1 n00, ↓bt2 n00, ↓bf1 n10, ↓bf2 n10, ↓an_sz0, ↓an_sz1, ↓an_sz2, ↓an_sz3, ↓an_sz4, ↓an_ri, ↓an_rb0, ↓an_rb1, ↓an_b0, ↓an_b1, true_and, ↓ai_0s, ↓al_0s, ↓av_0s, ↓aq_0s, ↓ai_1s, ↓al_1s, ↓av_1s, ↓aq_1s, ↓ai_2s, ↓al_2s, ↓av_2s, ↓aq_2s, ↓ai_3s, ↓al_3s, ↓av_3s, ↓aq_3s, ↓ai_4s, ↓al_4s, ↓av_4s, ↓aq_4s, ↓ai_5s, ↓al_5s, ↓av_5s, ↓aq_5s, ↓ai_6s, ↓al_6s, ↓av_6s, ↓aq_6s, ↓ai_7s, ↓al_7s, ↓av_7s, ↓aq_7s, ↓an_l4, ↓bk_8008, ↓Sg_8009, ↓Sg_11004, ↓kp_8008_2, ↓bt1 hc0, ↓bt2 hc0, ↓an_t hc1, ↓an_rv hc1, ↓oW_e hc2, ↓an_t hc3, ↓an_rv hc3, ↓oW_e hc4]
    rw [oW_some] at hs
    exact hs
  · replace hs := oW_f hs hc0
    obtain ⟨hc1, hs⟩ := oW_gx hs
    obtain ⟨hc2, hs⟩ := oW_gx hs
    obtain ⟨n3, hc3, hs⟩ := oW_bx hs
    obtain ⟨t4, l5, hc4, hs⟩ := oW_ax hs
    obtain ⟨hc5, hs⟩ := oW_gx hs
    obtain ⟨hc6, hs⟩ := oW_gx hs
    obtain ⟨n6, hc7, hs⟩ := oW_bx hs
    obtain ⟨t7, l8, hc8, hs⟩ := oW_ax hs
    obtain ⟨hc9, hs⟩ := oW_gx hs
    obtain ⟨hc10, hs⟩ := oW_gx hs
    simp (implicitDefEqProofs := false) only [↓hG, ↓hJf, ↓px_vc, ↓px_ex, ↓px_jp, ↓rq_gi_0, ↓rq_gi_S, ↓rq_gl_0, ↓rq_gl_S, ↓rq_gr_0, ↓rq_gr_S, ↓rq_s1_0, ↓rq_s1_1, ↓rq_s1_S, ↓rq_s2_0, ↓rq_s2_1, ↓rq_s2_S, ↓rq_nl_n, ↓rq_nl_i, ↓rq_nl_l, ↓rq_nl_r, ↓rq_i1_s, ↓rq_l1_s, ↓r1_s, ↓rq_q1_s, ↓rq_i2_s, ↓rq_l2_s, ↓rq_il_s, ↓rq_d0_s, ↓rq_d1_i, ↓rq_d1_r, ↓rq_d2_l, ↓rq_d2_ii, ↓rq_d2_ir, ↓px_pop, ↓px_sp, ↓px_rd, ↓px_rf, ↓pn_xf, ↓rq_pt_0, ↓rq_pt_1, ↓rq_pt_2, ↓rq_pt_3, ↓px_sw, ↓pn_SW, ↓px_ma, ↓reduceIte, Nat.reduceEqDiff, Nat.reduceAdd, Nat.reduceSub, ↓Option.toList_some, ↓Option.toList_none, ↓List.cons_append, ↓List.nil_append, ↓kI_s, ↓kJ_s, ↓kN_s, ↓kO_s, ↓kZ_s, ↓kE_s, ↓an_rfl, ↓bt1 n00, ↓bt2 n00, ↓bf1 n10, ↓bf2 n10, ↓an_sz0, ↓an_sz1, ↓an_sz2, ↓an_sz3, ↓an_sz4, ↓an_ri, ↓an_rb0, ↓an_rb1, ↓an_b0, ↓an_b1, true_and, ↓ai_0s, ↓al_0s, ↓av_0s, ↓aq_0s, ↓ai_1s, ↓al_1s, ↓av_1s, ↓aq_1s, ↓ai_2s, ↓al_2s, ↓av_2s, ↓aq_2s, ↓ai_3s, ↓al_3s, ↓av_3s, ↓aq_3s, ↓ai_4s, ↓al_4s, ↓av_4s, ↓aq_4s, ↓ai_5s, ↓al_5s, ↓av_5s, ↓aq_5s, ↓ai_6s, ↓al_6s, ↓av_6s, ↓aq_6s, ↓ai_7s, ↓al_7s, ↓av_7s, ↓aq_7s, ↓an_l4, ↓bk_8008, ↓Sg_8009, ↓Sg_11004, ↓kp_8008_2, ↓bf1 hc0, ↓bf2 hc0, ↓an_t hc1, ↓an_rv hc1, ↓an_t hc2, ↓an_rv hc2, ↓r1_e hc3, ↓av_0e hc3, ↓av_1e hc3, ↓av_2e hc3, ↓av_3e hc3, ↓ar_e hc4, ↓an_t hc5, ↓an_t hc6, ↓r1_e hc7, ↓av_0e hc7, ↓av_1e hc7, ↓av_2e hc7, ↓av_3e hc7, ↓ar_e hc8, ↓an_t hc9, ↓an_t hc10]
    rw [oW_some] at hs
    exact hs
set_option maxHeartbeats 4000000 in
set_option maxRecDepth 100000 in
theorem mf_8008 {tab : px_T} (hn : px_nd tab) {h : Nat} (hh : 29 ≤ h) : px_Ok tab pn_i8008 h (Sg_8008 (f_8008 tab)) := by
  refine px_mth hn (by decide +kernel) (fun av σ k hS => ?_) (fun C hT hC av σ k hS => ?_)
  · obtain ⟨x0, av0, e0, h0⟩ := av_0p hS
    obtain ⟨x1, av1, e1, h1⟩ := av_1p h0
    obtain ⟨x2, av2, e2, h2⟩ := ai_2p h1
    obtain ⟨ez, hs⟩ := h2
    subst ez
    subst e2
    subst e1
    subst e0
    exact Nat.le_of_ble_eq_true rfl
  · obtain ⟨x0, av0, e0, h0⟩ := av_0p hS
    obtain ⟨x1, av1, e1, h1⟩ := av_1p h0
    obtain ⟨x2, av2, e2, h2⟩ := ai_2p h1
    obtain ⟨ez, hs⟩ := h2
    subst ez
    subst e2
    subst e1
    subst e0
    subst hT
    show px_W C k 0 [some (.inr (.inr (some x0))), some (.inr (.inr (some x1))), some (.inl x2), none] [] σ
    refine px_runH (h - 1) ck_8008 [] [(2, kp_8008_2 (fun y0 y1 y2 y3 τ => oW (f_8008_2 (px_tb C) y0 y1 y2 y3 τ) (fun q => k (some (.inr (.inl q.1))) q.2)))] 80 4 (some .long) rfl rfl hC px_nosp (by omega) (px_cut1 (kq_8008_2 (fun y0 y1 y2 y3 τ hq => by exact rl_8008_2 hn (by omega) hC (y3, τ) hq)) px_nocut) (fun G Jf hG hJf => ?_)
    unfold f_8008 at hs
    simp (implicitDefEqProofs := false) only [↓hG, ↓hJf, ↓px_vc, ↓px_ex, ↓px_jp, ↓rq_gi_0, ↓rq_gi_S, ↓rq_gl_0, ↓rq_gl_S, ↓rq_gr_0, ↓rq_gr_S, ↓rq_s1_0, ↓rq_s1_1, ↓rq_s1_S, ↓rq_s2_0, ↓rq_s2_1, ↓rq_s2_S, ↓rq_nl_n, ↓rq_nl_i, ↓rq_nl_l, ↓rq_nl_r, ↓rq_i1_s, ↓rq_l1_s, ↓r1_s, ↓rq_q1_s, ↓rq_i2_s, ↓rq_l2_s, ↓rq_il_s, ↓rq_d0_s, ↓rq_d1_i, ↓rq_d1_r, ↓rq_d2_l, ↓rq_d2_ii, ↓rq_d2_ir, ↓px_pop, ↓px_sp, ↓px_rd, ↓px_rf, ↓pn_xf, ↓rq_pt_0, ↓rq_pt_1, ↓rq_pt_2, ↓rq_pt_3, ↓px_sw, ↓pn_SW, ↓px_ma, ↓reduceIte, Nat.reduceEqDiff, Nat.reduceAdd, Nat.reduceSub, ↓Option.toList_some, ↓Option.toList_none, ↓List.cons_append, ↓List.nil_append, ↓kI_s, ↓kJ_s, ↓kN_s, ↓kO_s, ↓kZ_s, ↓kE_s, ↓an_rfl, ↓bt1 n00, ↓bt2 n00, ↓bf1 n10, ↓bf2 n10, ↓an_sz0, ↓an_sz1, ↓an_sz2, ↓an_sz3, ↓an_sz4, ↓an_ri, ↓an_rb0, ↓an_rb1, ↓an_b0, ↓an_b1, true_and, ↓ai_0s, ↓al_0s, ↓av_0s, ↓aq_0s, ↓ai_1s, ↓al_1s, ↓av_1s, ↓aq_1s, ↓ai_2s, ↓al_2s, ↓av_2s, ↓aq_2s, ↓ai_3s, ↓al_3s, ↓av_3s, ↓aq_3s, ↓ai_4s, ↓al_4s, ↓av_4s, ↓aq_4s, ↓ai_5s, ↓al_5s, ↓av_5s, ↓aq_5s, ↓ai_6s, ↓al_6s, ↓av_6s, ↓aq_6s, ↓ai_7s, ↓al_7s, ↓av_7s, ↓aq_7s, ↓an_l4, ↓bk_8008, ↓kp_8008_2]
    exact hs
def Sg_9002 (g : px_M → Nat → Int32 → Option (Int32)) : px_S := fun av σ k => av_0 av (fun x0 av => ai_1 av (fun x1 av => av = [] ∧ oW (g σ x0 x1) (fun r => k (some (.inl r)) σ)))
/-- NoThree$Reader.hasRoomFor(I)Z -/
noncomputable def f_9002 (tab : px_T) (σ : px_M) (x0 : Nat) (x1 : Int32) : Option (Int32) := gd (px_obj (px_lay tab x0) 9) (if (nI 900) < (((σ).1 x0 0) + x1) then (some ((nI 0))) else (some ((nI 1))))
set_option maxHeartbeats 4000000 in
set_option maxRecDepth 100000 in
theorem mf_9002 {tab : px_T} (hn : px_nd tab) {h : Nat} (hh : 1 ≤ h) : px_Ok tab pn_i9002 h (Sg_9002 (f_9002 tab)) := by
  refine px_mth hn (by decide +kernel) (fun av σ k hS => ?_) (fun C hT hC av σ k hS => ?_)
  · obtain ⟨x0, av0, e0, h0⟩ := av_0p hS
    obtain ⟨x1, av1, e1, h1⟩ := ai_1p h0
    obtain ⟨ez, hs⟩ := h1
    subst ez
    subst e1
    subst e0
    exact Nat.le_of_ble_eq_true rfl
  · obtain ⟨x0, av0, e0, h0⟩ := av_0p hS
    obtain ⟨x1, av1, e1, h1⟩ := ai_1p h0
    obtain ⟨ez, hs⟩ := h1
    subst ez
    subst e1
    subst e0
    subst hT
    show px_W C k 0 [some (.inr (.inr (some x0))), some (.inl x1)] [] σ
    refine px_runH (h - 1) ck_9002 [] [] 80 2 (some .boolean) rfl rfl hC px_nosp (by omega) px_nocut (fun G Jf hG hJf => ?_)
    unfold f_9002 at hs
    obtain ⟨hc0, hs⟩ := oW_gx hs
    by_cases hc1 : (nI 900) < (((σ).1 x0 0) + x1)
    · replace hs := oW_t hs hc1
      simp (implicitDefEqProofs := false) only [↓hG, ↓hJf, ↓px_vc, ↓px_ex, ↓px_jp, ↓rq_gi_0, ↓rq_gi_S, ↓rq_gl_0, ↓rq_gl_S, ↓rq_gr_0, ↓rq_gr_S, ↓rq_s1_0, ↓rq_s1_1, ↓rq_s1_S, ↓rq_s2_0, ↓rq_s2_1, ↓rq_s2_S, ↓rq_nl_n, ↓rq_nl_i, ↓rq_nl_l, ↓rq_nl_r, ↓rq_i1_s, ↓rq_l1_s, ↓r1_s, ↓rq_q1_s, ↓rq_i2_s, ↓rq_l2_s, ↓rq_il_s, ↓rq_d0_s, ↓rq_d1_i, ↓rq_d1_r, ↓rq_d2_l, ↓rq_d2_ii, ↓rq_d2_ir, ↓px_pop, ↓px_sp, ↓px_rd, ↓px_rf, ↓pn_xf, ↓rq_pt_0, ↓rq_pt_1, ↓rq_pt_2, ↓rq_pt_3, ↓px_sw, ↓pn_SW, ↓px_ma, ↓reduceIte, Nat.reduceEqDiff, Nat.reduceAdd, Nat.reduceSub, ↓Option.toList_some, ↓Option.toList_none, ↓List.cons_append, ↓List.nil_append, ↓kI_s, ↓kJ_s, ↓kN_s, ↓kO_s, ↓kZ_s, ↓kE_s, ↓an_rfl, ↓bt1 n00, ↓bt2 n00, ↓bf1 n10, ↓bf2 n10, ↓an_sz0, ↓an_sz1, ↓an_sz2, ↓an_sz3, ↓an_sz4, ↓an_ri, ↓an_rb0, ↓an_rb1, ↓an_b0, ↓an_b1, true_and, ↓ai_0s, ↓al_0s, ↓av_0s, ↓aq_0s, ↓ai_1s, ↓al_1s, ↓av_1s, ↓aq_1s, ↓ai_2s, ↓al_2s, ↓av_2s, ↓aq_2s, ↓ai_3s, ↓al_3s, ↓av_3s, ↓aq_3s, ↓ai_4s, ↓al_4s, ↓av_4s, ↓aq_4s, ↓ai_5s, ↓al_5s, ↓av_5s, ↓aq_5s, ↓ai_6s, ↓al_6s, ↓av_6s, ↓aq_6s, ↓ai_7s, ↓al_7s, ↓av_7s, ↓aq_7s, ↓an_l2, ↓bk_9002, ↓an_t hc0, ↓an_rv hc0, ↓bt1 hc1, ↓bt2 hc1]
      rw [oW_some] at hs
      exact hs
    · replace hs := oW_f hs hc1
      simp (implicitDefEqProofs := false) only [↓hG, ↓hJf, ↓px_vc, ↓px_ex, ↓px_jp, ↓rq_gi_0, ↓rq_gi_S, ↓rq_gl_0, ↓rq_gl_S, ↓rq_gr_0, ↓rq_gr_S, ↓rq_s1_0, ↓rq_s1_1, ↓rq_s1_S, ↓rq_s2_0, ↓rq_s2_1, ↓rq_s2_S, ↓rq_nl_n, ↓rq_nl_i, ↓rq_nl_l, ↓rq_nl_r, ↓rq_i1_s, ↓rq_l1_s, ↓r1_s, ↓rq_q1_s, ↓rq_i2_s, ↓rq_l2_s, ↓rq_il_s, ↓rq_d0_s, ↓rq_d1_i, ↓rq_d1_r, ↓rq_d2_l, ↓rq_d2_ii, ↓rq_d2_ir, ↓px_pop, ↓px_sp, ↓px_rd, ↓px_rf, ↓pn_xf, ↓rq_pt_0, ↓rq_pt_1, ↓rq_pt_2, ↓rq_pt_3, ↓px_sw, ↓pn_SW, ↓px_ma, ↓reduceIte, Nat.reduceEqDiff, Nat.reduceAdd, Nat.reduceSub, ↓Option.toList_some, ↓Option.toList_none, ↓List.cons_append, ↓List.nil_append, ↓kI_s, ↓kJ_s, ↓kN_s, ↓kO_s, ↓kZ_s, ↓kE_s, ↓an_rfl, ↓bt1 n00, ↓bt2 n00, ↓bf1 n10, ↓bf2 n10, ↓an_sz0, ↓an_sz1, ↓an_sz2, ↓an_sz3, ↓an_sz4, ↓an_ri, ↓an_rb0, ↓an_rb1, ↓an_b0, ↓an_b1, true_and, ↓ai_0s, ↓al_0s, ↓av_0s, ↓aq_0s, ↓ai_1s, ↓al_1s, ↓av_1s, ↓aq_1s, ↓ai_2s, ↓al_2s, ↓av_2s, ↓aq_2s, ↓ai_3s, ↓al_3s, ↓av_3s, ↓aq_3s, ↓ai_4s, ↓al_4s, ↓av_4s, ↓aq_4s, ↓ai_5s, ↓al_5s, ↓av_5s, ↓aq_5s, ↓ai_6s, ↓al_6s, ↓av_6s, ↓aq_6s, ↓ai_7s, ↓al_7s, ↓av_7s, ↓aq_7s, ↓an_l2, ↓bk_9002, ↓an_t hc0, ↓an_rv hc0, ↓bf1 hc1, ↓bf2 hc1]
      rw [oW_some] at hs
      exact hs
def Sg_9003 (g : px_M → Nat → Int32 → Option (px_M)) : px_S := fun av σ k => av_0 av (fun x0 av => ai_1 av (fun x1 av => av = [] ∧ oW (g σ x0 x1) (fun τ => k none τ)))
/-- NoThree$Reader.append(I)V -/
noncomputable def f_9003_47 (tab : px_T) (σ : px_M) (x0 : Nat) (x1 : Int32) (x2 : Int32) : Option ((Int32 × px_M) ⊕ (px_M)) := some (.inl (((x2 + (-8)), σ)))
noncomputable def F_9003_3 (tab : px_T) (x0 : Nat) (x1 : Int32) (x2 : Int32) (σ : px_M) : Option ((Int32 × px_M) ⊕ (px_M)) := if x2 < nI 0 then (some (.inr (σ))) else (gd (px_obj (px_lay tab x0) 9) (if ((σ).1 x0 0) < nI 0 then (f_9003_47 tab σ x0 x1 x2) else (if (nI 900) ≤ ((σ).1 x0 0) then (f_9003_47 tab σ x0 x1 x2) else ((((σ).2.2 x0 4)).bind fun n1 => oA (px_lay tab n1) fun t2 l3 => gd ((t2 = 1 ∧ (((x1 >>> (x2 &&& 31))).toInt8.toInt32).toInt8.toInt32 = ((x1 >>> (x2 &&& 31))).toInt8.toInt32) ∨ (t2 = 2 ∧ (((x1 >>> (x2 &&& 31))).toInt8.toInt32 = nI 0 ∨ ((x1 >>> (x2 &&& 31))).toInt8.toInt32 = nI 1))) (gd (vp_in ((σ).1 x0 0) l3) (f_9003_47 tab ((px_wi (px_wi σ n1 (((σ).1 x0 0)).toNatClampNeg ((x1 >>> (x2 &&& 31))).toInt8.toInt32) x0 0 ((((px_wi σ n1 (((σ).1 x0 0)).toNatClampNeg ((x1 >>> (x2 &&& 31))).toInt8.toInt32)).1 x0 0) + (nI 1)))) x0 x1 x2))))))
noncomputable def f_9003_3 (tab : px_T) (x0 : Nat) (x1 : Int32) (x2 : Int32) (σ : px_M) : Option (px_M) := lpO (fun s : Int32 × px_M => F_9003_3 tab x0 x1 s.1 s.2) (x2, σ)
theorem f_9003_3_eq (tab : px_T) (x0 : Nat) (x1 : Int32) (x2 : Int32) (σ : px_M) : f_9003_3 tab x0 x1 x2 σ = (F_9003_3 tab x0 x1 x2 σ).bind (Sum.elim (fun s => f_9003_3 tab x0 x1 s.1 s.2) some) := lpO_eq _ _
noncomputable def f_9003 (tab : px_T) (σ : px_M) (x0 : Nat) (x1 : Int32) : Option (px_M) := f_9003_3 tab x0 x1 ((nI 24)) σ
def kp_9003_47 (Q : Nat → Int32 → Int32 → px_M → Prop) : px_P := fun ls st τ => st = [] ∧ kN ls (fun x0 ls => kI ls (fun x1 ls => kI ls (fun x2 ls => kE ls (Q x0 x1 x2 τ))))
theorem kq_9003_47 {C : px_C} {k : Option px_V → px_M → Prop} {Q : Nat → Int32 → Int32 → px_M → Prop} (H : ∀ (x0 : Nat) (x1 : Int32) (x2 : Int32) (τ : px_M), Q x0 x1 x2 τ → px_W C k 47 [some (.inr (.inr (some x0))), some (.inl x1), some (.inl x2)] [] τ) : ∀ ls st τ, kp_9003_47 Q ls st τ → px_W C k 47 ls st τ := by
  intro ls st τ hz
  obtain ⟨ez, h0⟩ := hz
  obtain ⟨x0, l0, e0, h1⟩ := kN_sp h0
  obtain ⟨x1, l1, e1, h2⟩ := kI_sp h1
  obtain ⟨x2, l2, e2, h3⟩ := kI_sp h2
  obtain ⟨ey, hy⟩ := kE_sp h3
  subst ez
  subst ey
  subst e2
  subst e1
  subst e0
  exact H x0 x1 x2 τ hy
def kp_9003_3 (Q : Nat → Int32 → Int32 → px_M → Prop) : px_P := fun ls st τ => st = [] ∧ kN ls (fun x0 ls => kI ls (fun x1 ls => kI ls (fun x2 ls => kE ls (Q x0 x1 x2 τ))))
theorem kq_9003_3 {C : px_C} {k : Option px_V → px_M → Prop} {Q : Nat → Int32 → Int32 → px_M → Prop} (H : ∀ (x0 : Nat) (x1 : Int32) (x2 : Int32) (τ : px_M), Q x0 x1 x2 τ → px_W C k 3 [some (.inr (.inr (some x0))), some (.inl x1), some (.inl x2)] [] τ) : ∀ ls st τ, kp_9003_3 Q ls st τ → px_W C k 3 ls st τ := by
  intro ls st τ hz
  obtain ⟨ez, h0⟩ := hz
  obtain ⟨x0, l0, e0, h1⟩ := kN_sp h0
  obtain ⟨x1, l1, e1, h2⟩ := kI_sp h1
  obtain ⟨x2, l2, e2, h3⟩ := kI_sp h2
  obtain ⟨ey, hy⟩ := kE_sp h3
  subst ez
  subst ey
  subst e2
  subst e1
  subst e0
  exact H x0 x1 x2 τ hy
set_option maxHeartbeats 4000000 in
set_option maxRecDepth 100000 in
theorem rl_9003_47 {C : px_C} (hn : px_nd (px_tb C)) {h : Nat} (hh : 1 ≤ h) (hC : px_ok C pn_i9003 h) {k : Option px_V → px_M → Prop} {x0 : Nat} {x1 : Int32} {x2 : Int32} {σ : px_M} (hs : oW (f_9003_47 (px_tb C) σ x0 x1 x2) (Sum.elim (fun s : Int32 × px_M => px_W C k 3 [some (.inr (.inr (some x0))), some (.inl x1), some (.inl s.1)] [] s.2) (fun τ => k none τ))) : px_W C k 47 [some (.inr (.inr (some x0))), some (.inl x1), some (.inl x2)] [] σ := by
  refine px_runH (h - 1) ck_9003 [] [(3, kp_9003_3 (fun y0 y1 y2 τ => y0 = x0 ∧ y1 = x1 ∧ (fun s : Int32 × px_M => px_W C k 3 [some (.inr (.inr (some x0))), some (.inl x1), some (.inl s.1)] [] s.2) (y2, τ)))] 80 3 none rfl rfl hC px_nosp (by omega) (px_cut1 (kq_9003_3 (fun y0 y1 y2 τ hq => by obtain ⟨rfl, rfl, hq⟩ := hq; exact hq)) px_nocut) (fun G Jf hG hJf => ?_)
  unfold f_9003_47 at hs
  simp (implicitDefEqProofs := false) only [↓hG, ↓hJf, ↓px_vc, ↓px_ex, ↓px_jp, ↓rq_gi_0, ↓rq_gi_S, ↓rq_gl_0, ↓rq_gl_S, ↓rq_gr_0, ↓rq_gr_S, ↓rq_s1_0, ↓rq_s1_1, ↓rq_s1_S, ↓rq_s2_0, ↓rq_s2_1, ↓rq_s2_S, ↓rq_nl_n, ↓rq_nl_i, ↓rq_nl_l, ↓rq_nl_r, ↓rq_i1_s, ↓rq_l1_s, ↓r1_s, ↓rq_q1_s, ↓rq_i2_s, ↓rq_l2_s, ↓rq_il_s, ↓rq_d0_s, ↓rq_d1_i, ↓rq_d1_r, ↓rq_d2_l, ↓rq_d2_ii, ↓rq_d2_ir, ↓px_pop, ↓px_sp, ↓px_rd, ↓px_rf, ↓pn_xf, ↓rq_pt_0, ↓rq_pt_1, ↓rq_pt_2, ↓rq_pt_3, ↓px_sw, ↓pn_SW, ↓px_ma, ↓reduceIte, Nat.reduceEqDiff, Nat.reduceAdd, Nat.reduceSub, ↓Option.toList_some, ↓Option.toList_none, ↓List.cons_append, ↓List.nil_append, ↓kI_s, ↓kJ_s, ↓kN_s, ↓kO_s, ↓kZ_s, ↓kE_s, ↓an_rfl, ↓bt1 n00, ↓bt2 n00, ↓bf1 n10, ↓bf2 n10, ↓an_sz0, ↓an_sz1, ↓an_sz2, ↓an_sz3, ↓an_sz4, ↓an_ri, ↓an_rb0, ↓an_rb1, ↓an_b0, ↓an_b1, true_and, ↓ai_0s, ↓al_0s, ↓av_0s, ↓aq_0s, ↓ai_1s, ↓al_1s, ↓av_1s, ↓aq_1s, ↓ai_2s, ↓al_2s, ↓av_2s, ↓aq_2s, ↓ai_3s, ↓al_3s, ↓av_3s, ↓aq_3s, ↓ai_4s, ↓al_4s, ↓av_4s, ↓aq_4s, ↓ai_5s, ↓al_5s, ↓av_5s, ↓aq_5s, ↓ai_6s, ↓al_6s, ↓av_6s, ↓aq_6s, ↓ai_7s, ↓al_7s, ↓av_7s, ↓aq_7s, ↓an_l3, ↓bk_9003, ↓kp_9003_3]
  rw [oW_some] at hs
  exact hs
set_option maxHeartbeats 4000000 in
set_option maxRecDepth 100000 in
theorem rl_9003_3 {C : px_C} (hn : px_nd (px_tb C)) {h : Nat} (hh : 1 ≤ h) (hC : px_ok C pn_i9003 h) {k : Option px_V → px_M → Prop} {x0 : Nat} {x1 : Int32} : ∀ s : Int32 × px_M, oW (f_9003_3 (px_tb C) x0 x1 s.1 s.2) (fun τ => k none τ) → (fun s : Int32 × px_M => px_W C k 3 [some (.inr (.inr (some x0))), some (.inl x1), some (.inl s.1)] [] s.2) s := by
  intro s h0
  refine lpO_sound (P := (fun s : Int32 × px_M => px_W C k 3 [some (.inr (.inr (some x0))), some (.inl x1), some (.inl s.1)] [] s.2)) (fun s hs => ?_) h0
  obtain ⟨x2, σ⟩ := s
  refine px_runH (h - 1) ck_9003 [] [(47, kp_9003_47 (fun y0 y1 y2 τ => y0 = x0 ∧ y1 = x1 ∧ oW (f_9003_47 (px_tb C) τ y0 y1 y2) (Sum.elim (fun s : Int32 × px_M => px_W C k 3 [some (.inr (.inr (some x0))), some (.inl x1), some (.inl s.1)] [] s.2) (fun τ => k none τ))))] 80 3 none rfl rfl hC px_nosp (by omega) (px_cut1 (kq_9003_47 (fun y0 y1 y2 τ hq => by obtain ⟨rfl, rfl, hq⟩ := hq; exact rl_9003_47 hn (by omega) hC  hq)) px_nocut) (fun G Jf hG hJf => ?_)
  replace hs : oW (F_9003_3 (px_tb C) x0 x1 x2 σ) _ := hs
  unfold F_9003_3 at hs
  by_cases hc0 : x2 < nI 0
  · replace hs := oW_t hs hc0
    simp (implicitDefEqProofs := false) only [↓hG, ↓hJf, ↓px_vc, ↓px_ex, ↓px_jp, ↓rq_gi_0, ↓rq_gi_S, ↓rq_gl_0, ↓rq_gl_S, ↓rq_gr_0, ↓rq_gr_S, ↓rq_s1_0, ↓rq_s1_1, ↓rq_s1_S, ↓rq_s2_0, ↓rq_s2_1, ↓rq_s2_S, ↓rq_nl_n, ↓rq_nl_i, ↓rq_nl_l, ↓rq_nl_r, ↓rq_i1_s, ↓rq_l1_s, ↓r1_s, ↓rq_q1_s, ↓rq_i2_s, ↓rq_l2_s, ↓rq_il_s, ↓rq_d0_s, ↓rq_d1_i, ↓rq_d1_r, ↓rq_d2_l, ↓rq_d2_ii, ↓rq_d2_ir, ↓px_pop, ↓px_sp, ↓px_rd, ↓px_rf, ↓pn_xf, ↓rq_pt_0, ↓rq_pt_1, ↓rq_pt_2, ↓rq_pt_3, ↓px_sw, ↓pn_SW, ↓px_ma, ↓reduceIte, Nat.reduceEqDiff, Nat.reduceAdd, Nat.reduceSub, ↓Option.toList_some, ↓Option.toList_none, ↓List.cons_append, ↓List.nil_append, ↓kI_s, ↓kJ_s, ↓kN_s, ↓kO_s, ↓kZ_s, ↓kE_s, ↓an_rfl, ↓bt1 n00, ↓bt2 n00, ↓bf1 n10, ↓bf2 n10, ↓an_sz0, ↓an_sz1, ↓an_sz2, ↓an_sz3, ↓an_sz4, ↓an_ri, ↓an_rb0, ↓an_rb1, ↓an_b0, ↓an_b1, true_and, ↓ai_0s, ↓al_0s, ↓av_0s, ↓aq_0s, ↓ai_1s, ↓al_1s, ↓av_1s, ↓aq_1s, ↓ai_2s, ↓al_2s, ↓av_2s, ↓aq_2s, ↓ai_3s, ↓al_3s, ↓av_3s, ↓aq_3s, ↓ai_4s, ↓al_4s, ↓av_4s, ↓aq_4s, ↓ai_5s, ↓al_5s, ↓av_5s, ↓aq_5s, ↓ai_6s, ↓al_6s, ↓av_6s, ↓aq_6s, ↓ai_7s, ↓al_7s, ↓av_7s, ↓aq_7s, ↓an_l3, ↓bk_9003, ↓kp_9003_47, ↓bt1 hc0, ↓bt2 hc0]
    rw [oW_some] at hs
    exact hs
  · replace hs := oW_f hs hc0
    obtain ⟨hc1, hs⟩ := oW_gx hs
    by_cases hc2 : ((σ).1 x0 0) < nI 0
    · replace hs := oW_t hs hc2
      simp (implicitDefEqProofs := false) only [↓hG, ↓hJf, ↓px_vc, ↓px_ex, ↓px_jp, ↓rq_gi_0, ↓rq_gi_S, ↓rq_gl_0, ↓rq_gl_S, ↓rq_gr_0, ↓rq_gr_S, ↓rq_s1_0, ↓rq_s1_1, ↓rq_s1_S, ↓rq_s2_0, ↓rq_s2_1, ↓rq_s2_S, ↓rq_nl_n, ↓rq_nl_i, ↓rq_nl_l, ↓rq_nl_r, ↓rq_i1_s, ↓rq_l1_s, ↓r1_s, ↓rq_q1_s, ↓rq_i2_s, ↓rq_l2_s, ↓rq_il_s, ↓rq_d0_s, ↓rq_d1_i, ↓rq_d1_r, ↓rq_d2_l, ↓rq_d2_ii, ↓rq_d2_ir, ↓px_pop, ↓px_sp, ↓px_rd, ↓px_rf, ↓pn_xf, ↓rq_pt_0, ↓rq_pt_1, ↓rq_pt_2, ↓rq_pt_3, ↓px_sw, ↓pn_SW, ↓px_ma, ↓reduceIte, Nat.reduceEqDiff, Nat.reduceAdd, Nat.reduceSub, ↓Option.toList_some, ↓Option.toList_none, ↓List.cons_append, ↓List.nil_append, ↓kI_s, ↓kJ_s, ↓kN_s, ↓kO_s, ↓kZ_s, ↓kE_s, ↓an_rfl, ↓bt1 n00, ↓bt2 n00, ↓bf1 n10, ↓bf2 n10, ↓an_sz0, ↓an_sz1, ↓an_sz2, ↓an_sz3, ↓an_sz4, ↓an_ri, ↓an_rb0, ↓an_rb1, ↓an_b0, ↓an_b1, true_and, ↓ai_0s, ↓al_0s, ↓av_0s, ↓aq_0s, ↓ai_1s, ↓al_1s, ↓av_1s, ↓aq_1s, ↓ai_2s, ↓al_2s, ↓av_2s, ↓aq_2s, ↓ai_3s, ↓al_3s, ↓av_3s, ↓aq_3s, ↓ai_4s, ↓al_4s, ↓av_4s, ↓aq_4s, ↓ai_5s, ↓al_5s, ↓av_5s, ↓aq_5s, ↓ai_6s, ↓al_6s, ↓av_6s, ↓aq_6s, ↓ai_7s, ↓al_7s, ↓av_7s, ↓aq_7s, ↓an_l3, ↓bk_9003, ↓kp_9003_47, ↓bf1 hc0, ↓bf2 hc0, ↓an_t hc1, ↓an_rv hc1, ↓bt1 hc2, ↓bt2 hc2]
      exact hs
    · replace hs := oW_f hs hc2
      by_cases hc3 : (nI 900) ≤ ((σ).1 x0 0)
      · replace hs := oW_t hs hc3
        simp (implicitDefEqProofs := false) only [↓hG, ↓hJf, ↓px_vc, ↓px_ex, ↓px_jp, ↓rq_gi_0, ↓rq_gi_S, ↓rq_gl_0, ↓rq_gl_S, ↓rq_gr_0, ↓rq_gr_S, ↓rq_s1_0, ↓rq_s1_1, ↓rq_s1_S, ↓rq_s2_0, ↓rq_s2_1, ↓rq_s2_S, ↓rq_nl_n, ↓rq_nl_i, ↓rq_nl_l, ↓rq_nl_r, ↓rq_i1_s, ↓rq_l1_s, ↓r1_s, ↓rq_q1_s, ↓rq_i2_s, ↓rq_l2_s, ↓rq_il_s, ↓rq_d0_s, ↓rq_d1_i, ↓rq_d1_r, ↓rq_d2_l, ↓rq_d2_ii, ↓rq_d2_ir, ↓px_pop, ↓px_sp, ↓px_rd, ↓px_rf, ↓pn_xf, ↓rq_pt_0, ↓rq_pt_1, ↓rq_pt_2, ↓rq_pt_3, ↓px_sw, ↓pn_SW, ↓px_ma, ↓reduceIte, Nat.reduceEqDiff, Nat.reduceAdd, Nat.reduceSub, ↓Option.toList_some, ↓Option.toList_none, ↓List.cons_append, ↓List.nil_append, ↓kI_s, ↓kJ_s, ↓kN_s, ↓kO_s, ↓kZ_s, ↓kE_s, ↓an_rfl, ↓bt1 n00, ↓bt2 n00, ↓bf1 n10, ↓bf2 n10, ↓an_sz0, ↓an_sz1, ↓an_sz2, ↓an_sz3, ↓an_sz4, ↓an_ri, ↓an_rb0, ↓an_rb1, ↓an_b0, ↓an_b1, true_and, ↓ai_0s, ↓al_0s, ↓av_0s, ↓aq_0s, ↓ai_1s, ↓al_1s, ↓av_1s, ↓aq_1s, ↓ai_2s, ↓al_2s, ↓av_2s, ↓aq_2s, ↓ai_3s, ↓al_3s, ↓av_3s, ↓aq_3s, ↓ai_4s, ↓al_4s, ↓av_4s, ↓aq_4s, ↓ai_5s, ↓al_5s, ↓av_5s, ↓aq_5s, ↓ai_6s, ↓al_6s, ↓av_6s, ↓aq_6s, ↓ai_7s, ↓al_7s, ↓av_7s, ↓aq_7s, ↓an_l3, ↓bk_9003, ↓kp_9003_47, ↓bf1 hc0, ↓bf2 hc0, ↓an_t hc1, ↓an_rv hc1, ↓bf1 hc2, ↓bf2 hc2, ↓bt1 hc3, ↓bt2 hc3]
        exact hs
      · replace hs := oW_f hs hc3
        obtain ⟨n1, hc4, hs⟩ := oW_bx hs
        obtain ⟨t2, l3, hc5, hs⟩ := oW_ax hs
        obtain ⟨hc6, hs⟩ := oW_gx hs
        obtain ⟨hc7, hs⟩ := oW_gx hs
        simp (implicitDefEqProofs := false) only [↓hG, ↓hJf, ↓px_vc, ↓px_ex, ↓px_jp, ↓rq_gi_0, ↓rq_gi_S, ↓rq_gl_0, ↓rq_gl_S, ↓rq_gr_0, ↓rq_gr_S, ↓rq_s1_0, ↓rq_s1_1, ↓rq_s1_S, ↓rq_s2_0, ↓rq_s2_1, ↓rq_s2_S, ↓rq_nl_n, ↓rq_nl_i, ↓rq_nl_l, ↓rq_nl_r, ↓rq_i1_s, ↓rq_l1_s, ↓r1_s, ↓rq_q1_s, ↓rq_i2_s, ↓rq_l2_s, ↓rq_il_s, ↓rq_d0_s, ↓rq_d1_i, ↓rq_d1_r, ↓rq_d2_l, ↓rq_d2_ii, ↓rq_d2_ir, ↓px_pop, ↓px_sp, ↓px_rd, ↓px_rf, ↓pn_xf, ↓rq_pt_0, ↓rq_pt_1, ↓rq_pt_2, ↓rq_pt_3, ↓px_sw, ↓pn_SW, ↓px_ma, ↓reduceIte, Nat.reduceEqDiff, Nat.reduceAdd, Nat.reduceSub, ↓Option.toList_some, ↓Option.toList_none, ↓List.cons_append, ↓List.nil_append, ↓kI_s, ↓kJ_s, ↓kN_s, ↓kO_s, ↓kZ_s, ↓kE_s, ↓an_rfl, ↓bt1 n00, ↓bt2 n00, ↓bf1 n10, ↓bf2 n10, ↓an_sz0, ↓an_sz1, ↓an_sz2, ↓an_sz3, ↓an_sz4, ↓an_ri, ↓an_rb0, ↓an_rb1, ↓an_b0, ↓an_b1, true_and, ↓ai_0s, ↓al_0s, ↓av_0s, ↓aq_0s, ↓ai_1s, ↓al_1s, ↓av_1s, ↓aq_1s, ↓ai_2s, ↓al_2s, ↓av_2s, ↓aq_2s, ↓ai_3s, ↓al_3s, ↓av_3s, ↓aq_3s, ↓ai_4s, ↓al_4s, ↓av_4s, ↓aq_4s, ↓ai_5s, ↓al_5s, ↓av_5s, ↓aq_5s, ↓ai_6s, ↓al_6s, ↓av_6s, ↓aq_6s, ↓ai_7s, ↓al_7s, ↓av_7s, ↓aq_7s, ↓an_l3, ↓bk_9003, ↓kp_9003_47, ↓bf1 hc0, ↓bf2 hc0, ↓an_t hc1, ↓an_rv hc1, ↓bf1 hc2, ↓bf2 hc2, ↓bf1 hc3, ↓bf2 hc3, ↓r1_e hc4, ↓av_0e hc4, ↓av_1e hc4, ↓av_2e hc4, ↓av_3e hc4, ↓ar_e hc5, ↓an_t hc6, ↓an_t hc7]
        exact hs
set_option maxHeartbeats 4000000 in
set_option maxRecDepth 100000 in
theorem mf_9003 {tab : px_T} (hn : px_nd tab) {h : Nat} (hh : 1 ≤ h) : px_Ok tab pn_i9003 h (Sg_9003 (f_9003 tab)) := by
  refine px_mth hn (by decide +kernel) (fun av σ k hS => ?_) (fun C hT hC av σ k hS => ?_)
  · obtain ⟨x0, av0, e0, h0⟩ := av_0p hS
    obtain ⟨x1, av1, e1, h1⟩ := ai_1p h0
    obtain ⟨ez, hs⟩ := h1
    subst ez
    subst e1
    subst e0
    exact Nat.le_of_ble_eq_true rfl
  · obtain ⟨x0, av0, e0, h0⟩ := av_0p hS
    obtain ⟨x1, av1, e1, h1⟩ := ai_1p h0
    obtain ⟨ez, hs⟩ := h1
    subst ez
    subst e1
    subst e0
    subst hT
    show px_W C k 0 [some (.inr (.inr (some x0))), some (.inl x1), none] [] σ
    refine px_runH (h - 1) ck_9003 [] [(3, kp_9003_3 (fun y0 y1 y2 τ => oW (f_9003_3 (px_tb C) y0 y1 y2 τ) (fun τ => k none τ)))] 80 3 none rfl rfl hC px_nosp (by omega) (px_cut1 (kq_9003_3 (fun y0 y1 y2 τ hq => by exact rl_9003_3 hn (by omega) hC (y2, τ) hq)) px_nocut) (fun G Jf hG hJf => ?_)
    unfold f_9003 at hs
    simp (implicitDefEqProofs := false) only [↓hG, ↓hJf, ↓px_vc, ↓px_ex, ↓px_jp, ↓rq_gi_0, ↓rq_gi_S, ↓rq_gl_0, ↓rq_gl_S, ↓rq_gr_0, ↓rq_gr_S, ↓rq_s1_0, ↓rq_s1_1, ↓rq_s1_S, ↓rq_s2_0, ↓rq_s2_1, ↓rq_s2_S, ↓rq_nl_n, ↓rq_nl_i, ↓rq_nl_l, ↓rq_nl_r, ↓rq_i1_s, ↓rq_l1_s, ↓r1_s, ↓rq_q1_s, ↓rq_i2_s, ↓rq_l2_s, ↓rq_il_s, ↓rq_d0_s, ↓rq_d1_i, ↓rq_d1_r, ↓rq_d2_l, ↓rq_d2_ii, ↓rq_d2_ir, ↓px_pop, ↓px_sp, ↓px_rd, ↓px_rf, ↓pn_xf, ↓rq_pt_0, ↓rq_pt_1, ↓rq_pt_2, ↓rq_pt_3, ↓px_sw, ↓pn_SW, ↓px_ma, ↓reduceIte, Nat.reduceEqDiff, Nat.reduceAdd, Nat.reduceSub, ↓Option.toList_some, ↓Option.toList_none, ↓List.cons_append, ↓List.nil_append, ↓kI_s, ↓kJ_s, ↓kN_s, ↓kO_s, ↓kZ_s, ↓kE_s, ↓an_rfl, ↓bt1 n00, ↓bt2 n00, ↓bf1 n10, ↓bf2 n10, ↓an_sz0, ↓an_sz1, ↓an_sz2, ↓an_sz3, ↓an_sz4, ↓an_ri, ↓an_rb0, ↓an_rb1, ↓an_b0, ↓an_b1, true_and, ↓ai_0s, ↓al_0s, ↓av_0s, ↓aq_0s, ↓ai_1s, ↓al_1s, ↓av_1s, ↓aq_1s, ↓ai_2s, ↓al_2s, ↓av_2s, ↓aq_2s, ↓ai_3s, ↓al_3s, ↓av_3s, ↓aq_3s, ↓ai_4s, ↓al_4s, ↓av_4s, ↓aq_4s, ↓ai_5s, ↓al_5s, ↓av_5s, ↓aq_5s, ↓ai_6s, ↓al_6s, ↓av_6s, ↓aq_6s, ↓ai_7s, ↓al_7s, ↓av_7s, ↓aq_7s, ↓an_l3, ↓bk_9003, ↓kp_9003_3]
    exact hs
def Sg_9006 (g : px_M → Nat → Int32 → Option (Int32)) : px_S := fun av σ k => av_0 av (fun x0 av => ai_1 av (fun x1 av => av = [] ∧ oW (g σ x0 x1) (fun r => k (some (.inl r)) σ)))
/-- NoThree$Reader.byteAt(I)I -/
noncomputable def f_9006 (tab : px_T) (σ : px_M) (x0 : Nat) (x1 : Int32) : Option (Int32) := if x1 < nI 0 then (some ((nI 0))) else (gd (px_obj (px_lay tab x0) 9) (if ((σ).1 x0 7) ≤ x1 then (some ((nI 0))) else ((((σ).2.2 x0 4)).bind fun n1 => oA (px_lay tab n1) fun t2 l3 => gd (t2 = 1 ∨ t2 = 2 ∨ t2 = 10) (gd (vp_in x1 l3) (some ((px_av t2 σ n1 (x1).toNatClampNeg)))))))
set_option maxHeartbeats 4000000 in
set_option maxRecDepth 100000 in
theorem mf_9006 {tab : px_T} (hn : px_nd tab) {h : Nat} (hh : 1 ≤ h) : px_Ok tab pn_i9006 h (Sg_9006 (f_9006 tab)) := by
  refine px_mth hn (by decide +kernel) (fun av σ k hS => ?_) (fun C hT hC av σ k hS => ?_)
  · obtain ⟨x0, av0, e0, h0⟩ := av_0p hS
    obtain ⟨x1, av1, e1, h1⟩ := ai_1p h0
    obtain ⟨ez, hs⟩ := h1
    subst ez
    subst e1
    subst e0
    exact Nat.le_of_ble_eq_true rfl
  · obtain ⟨x0, av0, e0, h0⟩ := av_0p hS
    obtain ⟨x1, av1, e1, h1⟩ := ai_1p h0
    obtain ⟨ez, hs⟩ := h1
    subst ez
    subst e1
    subst e0
    subst hT
    show px_W C k 0 [some (.inr (.inr (some x0))), some (.inl x1)] [] σ
    refine px_runH (h - 1) ck_9006 [] [] 80 2 (some .int) rfl rfl hC px_nosp (by omega) px_nocut (fun G Jf hG hJf => ?_)
    unfold f_9006 at hs
    by_cases hc0 : x1 < nI 0
    · replace hs := oW_t hs hc0
      simp (implicitDefEqProofs := false) only [↓hG, ↓hJf, ↓px_vc, ↓px_ex, ↓px_jp, ↓rq_gi_0, ↓rq_gi_S, ↓rq_gl_0, ↓rq_gl_S, ↓rq_gr_0, ↓rq_gr_S, ↓rq_s1_0, ↓rq_s1_1, ↓rq_s1_S, ↓rq_s2_0, ↓rq_s2_1, ↓rq_s2_S, ↓rq_nl_n, ↓rq_nl_i, ↓rq_nl_l, ↓rq_nl_r, ↓rq_i1_s, ↓rq_l1_s, ↓r1_s, ↓rq_q1_s, ↓rq_i2_s, ↓rq_l2_s, ↓rq_il_s, ↓rq_d0_s, ↓rq_d1_i, ↓rq_d1_r, ↓rq_d2_l, ↓rq_d2_ii, ↓rq_d2_ir, ↓px_pop, ↓px_sp, ↓px_rd, ↓px_rf, ↓pn_xf, ↓rq_pt_0, ↓rq_pt_1, ↓rq_pt_2, ↓rq_pt_3, ↓px_sw, ↓pn_SW, ↓px_ma, ↓reduceIte, Nat.reduceEqDiff, Nat.reduceAdd, Nat.reduceSub, ↓Option.toList_some, ↓Option.toList_none, ↓List.cons_append, ↓List.nil_append, ↓kI_s, ↓kJ_s, ↓kN_s, ↓kO_s, ↓kZ_s, ↓kE_s, ↓an_rfl, ↓bt1 n00, ↓bt2 n00, ↓bf1 n10, ↓bf2 n10, ↓an_sz0, ↓an_sz1, ↓an_sz2, ↓an_sz3, ↓an_sz4, ↓an_ri, ↓an_rb0, ↓an_rb1, ↓an_b0, ↓an_b1, true_and, ↓ai_0s, ↓al_0s, ↓av_0s, ↓aq_0s, ↓ai_1s, ↓al_1s, ↓av_1s, ↓aq_1s, ↓ai_2s, ↓al_2s, ↓av_2s, ↓aq_2s, ↓ai_3s, ↓al_3s, ↓av_3s, ↓aq_3s, ↓ai_4s, ↓al_4s, ↓av_4s, ↓aq_4s, ↓ai_5s, ↓al_5s, ↓av_5s, ↓aq_5s, ↓ai_6s, ↓al_6s, ↓av_6s, ↓aq_6s, ↓ai_7s, ↓al_7s, ↓av_7s, ↓aq_7s, ↓an_l2, ↓bk_9006, ↓bt1 hc0, ↓bt2 hc0]
      rw [oW_some] at hs
      exact hs
    · replace hs := oW_f hs hc0
      obtain ⟨hc1, hs⟩ := oW_gx hs
      by_cases hc2 : ((σ).1 x0 7) ≤ x1
      · replace hs := oW_t hs hc2
        simp (implicitDefEqProofs := false) only [↓hG, ↓hJf, ↓px_vc, ↓px_ex, ↓px_jp, ↓rq_gi_0, ↓rq_gi_S, ↓rq_gl_0, ↓rq_gl_S, ↓rq_gr_0, ↓rq_gr_S, ↓rq_s1_0, ↓rq_s1_1, ↓rq_s1_S, ↓rq_s2_0, ↓rq_s2_1, ↓rq_s2_S, ↓rq_nl_n, ↓rq_nl_i, ↓rq_nl_l, ↓rq_nl_r, ↓rq_i1_s, ↓rq_l1_s, ↓r1_s, ↓rq_q1_s, ↓rq_i2_s, ↓rq_l2_s, ↓rq_il_s, ↓rq_d0_s, ↓rq_d1_i, ↓rq_d1_r, ↓rq_d2_l, ↓rq_d2_ii, ↓rq_d2_ir, ↓px_pop, ↓px_sp, ↓px_rd, ↓px_rf, ↓pn_xf, ↓rq_pt_0, ↓rq_pt_1, ↓rq_pt_2, ↓rq_pt_3, ↓px_sw, ↓pn_SW, ↓px_ma, ↓reduceIte, Nat.reduceEqDiff, Nat.reduceAdd, Nat.reduceSub, ↓Option.toList_some, ↓Option.toList_none, ↓List.cons_append, ↓List.nil_append, ↓kI_s, ↓kJ_s, ↓kN_s, ↓kO_s, ↓kZ_s, ↓kE_s, ↓an_rfl, ↓bt1 n00, ↓bt2 n00, ↓bf1 n10, ↓bf2 n10, ↓an_sz0, ↓an_sz1, ↓an_sz2, ↓an_sz3, ↓an_sz4, ↓an_ri, ↓an_rb0, ↓an_rb1, ↓an_b0, ↓an_b1, true_and, ↓ai_0s, ↓al_0s, ↓av_0s, ↓aq_0s, ↓ai_1s, ↓al_1s, ↓av_1s, ↓aq_1s, ↓ai_2s, ↓al_2s, ↓av_2s, ↓aq_2s, ↓ai_3s, ↓al_3s, ↓av_3s, ↓aq_3s, ↓ai_4s, ↓al_4s, ↓av_4s, ↓aq_4s, ↓ai_5s, ↓al_5s, ↓av_5s, ↓aq_5s, ↓ai_6s, ↓al_6s, ↓av_6s, ↓aq_6s, ↓ai_7s, ↓al_7s, ↓av_7s, ↓aq_7s, ↓an_l2, ↓bk_9006, ↓bf1 hc0, ↓bf2 hc0, ↓an_t hc1, ↓an_rv hc1, ↓bt1 hc2, ↓bt2 hc2]
        rw [oW_some] at hs
        exact hs
      · replace hs := oW_f hs hc2
        obtain ⟨n1, hc3, hs⟩ := oW_bx hs
        obtain ⟨t2, l3, hc4, hs⟩ := oW_ax hs
        obtain ⟨hc5, hs⟩ := oW_gx hs
        obtain ⟨hc6, hs⟩ := oW_gx hs
        simp (implicitDefEqProofs := false) only [↓hG, ↓hJf, ↓px_vc, ↓px_ex, ↓px_jp, ↓rq_gi_0, ↓rq_gi_S, ↓rq_gl_0, ↓rq_gl_S, ↓rq_gr_0, ↓rq_gr_S, ↓rq_s1_0, ↓rq_s1_1, ↓rq_s1_S, ↓rq_s2_0, ↓rq_s2_1, ↓rq_s2_S, ↓rq_nl_n, ↓rq_nl_i, ↓rq_nl_l, ↓rq_nl_r, ↓rq_i1_s, ↓rq_l1_s, ↓r1_s, ↓rq_q1_s, ↓rq_i2_s, ↓rq_l2_s, ↓rq_il_s, ↓rq_d0_s, ↓rq_d1_i, ↓rq_d1_r, ↓rq_d2_l, ↓rq_d2_ii, ↓rq_d2_ir, ↓px_pop, ↓px_sp, ↓px_rd, ↓px_rf, ↓pn_xf, ↓rq_pt_0, ↓rq_pt_1, ↓rq_pt_2, ↓rq_pt_3, ↓px_sw, ↓pn_SW, ↓px_ma, ↓reduceIte, Nat.reduceEqDiff, Nat.reduceAdd, Nat.reduceSub, ↓Option.toList_some, ↓Option.toList_none, ↓List.cons_append, ↓List.nil_append, ↓kI_s, ↓kJ_s, ↓kN_s, ↓kO_s, ↓kZ_s, ↓kE_s, ↓an_rfl, ↓bt1 n00, ↓bt2 n00, ↓bf1 n10, ↓bf2 n10, ↓an_sz0, ↓an_sz1, ↓an_sz2, ↓an_sz3, ↓an_sz4, ↓an_ri, ↓an_rb0, ↓an_rb1, ↓an_b0, ↓an_b1, true_and, ↓ai_0s, ↓al_0s, ↓av_0s, ↓aq_0s, ↓ai_1s, ↓al_1s, ↓av_1s, ↓aq_1s, ↓ai_2s, ↓al_2s, ↓av_2s, ↓aq_2s, ↓ai_3s, ↓al_3s, ↓av_3s, ↓aq_3s, ↓ai_4s, ↓al_4s, ↓av_4s, ↓aq_4s, ↓ai_5s, ↓al_5s, ↓av_5s, ↓aq_5s, ↓ai_6s, ↓al_6s, ↓av_6s, ↓aq_6s, ↓ai_7s, ↓al_7s, ↓av_7s, ↓aq_7s, ↓an_l2, ↓bk_9006, ↓bf1 hc0, ↓bf2 hc0, ↓an_t hc1, ↓an_rv hc1, ↓bf1 hc2, ↓bf2 hc2, ↓r1_e hc3, ↓av_0e hc3, ↓av_1e hc3, ↓av_2e hc3, ↓av_3e hc3, ↓ar_e hc4, ↓an_t hc5, ↓an_t hc6]
        rw [oW_some] at hs
        exact hs
def Sg_9007 (g : px_M → Nat → Int32 → Option (Int32)) : px_S := fun av σ k => av_0 av (fun x0 av => ai_1 av (fun x1 av => av = [] ∧ oW (g σ x0 x1) (fun r => k (some (.inl r)) σ)))
/-- NoThree$Reader.isBlank(I)Z -/
noncomputable def f_9007_20 (tab : px_T) (σ : px_M) : Option (Int32) := some ((nI 1))
noncomputable def f_9007 (tab : px_T) (σ : px_M) (x0 : Nat) (x1 : Int32) : Option (Int32) := gd (px_obj (px_lay tab x0) 9) ((f_9006 tab σ x0 x1).bind fun r1 => if r1 = (nI 10) then (f_9007_20 tab σ) else (bn (r1 = (nI 32)) (some ((nI 0))) (f_9007_20 tab σ)))
def kp_9007_20 (Q : px_M → Prop) : px_P := fun ls st τ => st = [] ∧ kZ ls (fun ls => kZ ls (fun ls => kE ls (Q τ)))
theorem kq_9007_20 {C : px_C} {k : Option px_V → px_M → Prop} {Q : px_M → Prop} (H : ∀ (τ : px_M), Q τ → ∀ (z0 : Option px_V) (z1 : Option px_V), px_W C k 20 [z0, z1] [] τ) : ∀ ls st τ, kp_9007_20 Q ls st τ → px_W C k 20 ls st τ := by
  intro ls st τ hz
  obtain ⟨ez, h0⟩ := hz
  obtain ⟨z0, l0, e0, h1⟩ := kZ_sp h0
  obtain ⟨z1, l1, e1, h2⟩ := kZ_sp h1
  obtain ⟨ey, hy⟩ := kE_sp h2
  subst ez
  subst ey
  subst e1
  subst e0
  exact H τ hy z0 z1
set_option maxHeartbeats 4000000 in
set_option maxRecDepth 100000 in
theorem rl_9007_20 {C : px_C} (hn : px_nd (px_tb C)) {h : Nat} (hh : 2 ≤ h) (hC : px_ok C pn_i9007 h) {k : Option px_V → px_M → Prop} {σ : px_M} (hs : oW (f_9007_20 (px_tb C) σ) (fun r => k (some (.inl r)) σ)) : ∀ (z0 : Option px_V) (z1 : Option px_V), px_W C k 20 [z0, z1] [] σ := by
  intro z0 z1
  refine px_runH (h - 1) ck_9007 [] [] 80 2 (some .boolean) rfl rfl hC px_nosp (by omega) px_nocut (fun G Jf hG hJf => ?_)
  unfold f_9007_20 at hs
  simp (implicitDefEqProofs := false) only [↓hG, ↓hJf, ↓px_vc, ↓px_ex, ↓px_jp, ↓rq_gi_0, ↓rq_gi_S, ↓rq_gl_0, ↓rq_gl_S, ↓rq_gr_0, ↓rq_gr_S, ↓rq_s1_0, ↓rq_s1_1, ↓rq_s1_S, ↓rq_s2_0, ↓rq_s2_1, ↓rq_s2_S, ↓rq_nl_n, ↓rq_nl_i, ↓rq_nl_l, ↓rq_nl_r, ↓rq_i1_s, ↓rq_l1_s, ↓r1_s, ↓rq_q1_s, ↓rq_i2_s, ↓rq_l2_s, ↓rq_il_s, ↓rq_d0_s, ↓rq_d1_i, ↓rq_d1_r, ↓rq_d2_l, ↓rq_d2_ii, ↓rq_d2_ir, ↓px_pop, ↓px_sp, ↓px_rd, ↓px_rf, ↓pn_xf, ↓rq_pt_0, ↓rq_pt_1, ↓rq_pt_2, ↓rq_pt_3, ↓px_sw, ↓pn_SW, ↓px_ma, ↓reduceIte, Nat.reduceEqDiff, Nat.reduceAdd, Nat.reduceSub, ↓Option.toList_some, ↓Option.toList_none, ↓List.cons_append, ↓List.nil_append, ↓kI_s, ↓kJ_s, ↓kN_s, ↓kO_s, ↓kZ_s, ↓kE_s, ↓an_rfl, ↓bt1 n00, ↓bt2 n00, ↓bf1 n10, ↓bf2 n10, ↓an_sz0, ↓an_sz1, ↓an_sz2, ↓an_sz3, ↓an_sz4, ↓an_ri, ↓an_rb0, ↓an_rb1, ↓an_b0, ↓an_b1, true_and, ↓ai_0s, ↓al_0s, ↓av_0s, ↓aq_0s, ↓ai_1s, ↓al_1s, ↓av_1s, ↓aq_1s, ↓ai_2s, ↓al_2s, ↓av_2s, ↓aq_2s, ↓ai_3s, ↓al_3s, ↓av_3s, ↓aq_3s, ↓ai_4s, ↓al_4s, ↓av_4s, ↓aq_4s, ↓ai_5s, ↓al_5s, ↓av_5s, ↓aq_5s, ↓ai_6s, ↓al_6s, ↓av_6s, ↓aq_6s, ↓ai_7s, ↓al_7s, ↓av_7s, ↓aq_7s, ↓an_l2, ↓bk_9007]
  rw [oW_some] at hs
  exact hs
set_option maxHeartbeats 4000000 in
set_option maxRecDepth 100000 in
theorem mf_9007 {tab : px_T} (hn : px_nd tab) {h : Nat} (hh : 2 ≤ h) : px_Ok tab pn_i9007 h (Sg_9007 (f_9007 tab)) := by
  refine px_mth hn (by decide +kernel) (fun av σ k hS => ?_) (fun C hT hC av σ k hS => ?_)
  · obtain ⟨x0, av0, e0, h0⟩ := av_0p hS
    obtain ⟨x1, av1, e1, h1⟩ := ai_1p h0
    obtain ⟨ez, hs⟩ := h1
    subst ez
    subst e1
    subst e0
    exact Nat.le_of_ble_eq_true rfl
  · obtain ⟨x0, av0, e0, h0⟩ := av_0p hS
    obtain ⟨x1, av1, e1, h1⟩ := ai_1p h0
    obtain ⟨ez, hs⟩ := h1
    subst ez
    subst e1
    subst e0
    subst hT
    show px_W C k 0 [some (.inr (.inr (some x0))), some (.inl x1)] [] σ
    refine px_runH (h - 1) ck_9007 [(9006, Sg_9006 (f_9006 (px_tb C)))] [(20, kp_9007_20 (fun τ => τ = σ ∧ oW (f_9007_20 (px_tb C) τ) (fun r => k (some (.inl r)) σ)))] 80 2 (some .boolean) rfl rfl hC (px_sp1 (mf_9006 hn (by omega)) px_nosp) (by omega) (px_cut1 (kq_9007_20 (fun τ hq => by obtain ⟨rfl, hq⟩ := hq; exact rl_9007_20 hn (by omega) hC  hq)) px_nocut) (fun G Jf hG hJf => ?_)
    unfold f_9007 at hs
    obtain ⟨hc0, hs⟩ := oW_gx hs
    obtain ⟨r1, hc1, hs⟩ := oW_bx hs
    by_cases hc2 : r1 = (nI 10)
    · replace hs := oW_t hs hc2
      simp (implicitDefEqProofs := false) only [↓hG, ↓hJf, ↓px_vc, ↓px_ex, ↓px_jp, ↓rq_gi_0, ↓rq_gi_S, ↓rq_gl_0, ↓rq_gl_S, ↓rq_gr_0, ↓rq_gr_S, ↓rq_s1_0, ↓rq_s1_1, ↓rq_s1_S, ↓rq_s2_0, ↓rq_s2_1, ↓rq_s2_S, ↓rq_nl_n, ↓rq_nl_i, ↓rq_nl_l, ↓rq_nl_r, ↓rq_i1_s, ↓rq_l1_s, ↓r1_s, ↓rq_q1_s, ↓rq_i2_s, ↓rq_l2_s, ↓rq_il_s, ↓rq_d0_s, ↓rq_d1_i, ↓rq_d1_r, ↓rq_d2_l, ↓rq_d2_ii, ↓rq_d2_ir, ↓px_pop, ↓px_sp, ↓px_rd, ↓px_rf, ↓pn_xf, ↓rq_pt_0, ↓rq_pt_1, ↓rq_pt_2, ↓rq_pt_3, ↓px_sw, ↓pn_SW, ↓px_ma, ↓reduceIte, Nat.reduceEqDiff, Nat.reduceAdd, Nat.reduceSub, ↓Option.toList_some, ↓Option.toList_none, ↓List.cons_append, ↓List.nil_append, ↓kI_s, ↓kJ_s, ↓kN_s, ↓kO_s, ↓kZ_s, ↓kE_s, ↓an_rfl, ↓bt1 n00, ↓bt2 n00, ↓bf1 n10, ↓bf2 n10, ↓an_sz0, ↓an_sz1, ↓an_sz2, ↓an_sz3, ↓an_sz4, ↓an_ri, ↓an_rb0, ↓an_rb1, ↓an_b0, ↓an_b1, true_and, ↓ai_0s, ↓al_0s, ↓av_0s, ↓aq_0s, ↓ai_1s, ↓al_1s, ↓av_1s, ↓aq_1s, ↓ai_2s, ↓al_2s, ↓av_2s, ↓aq_2s, ↓ai_3s, ↓al_3s, ↓av_3s, ↓aq_3s, ↓ai_4s, ↓al_4s, ↓av_4s, ↓aq_4s, ↓ai_5s, ↓al_5s, ↓av_5s, ↓aq_5s, ↓ai_6s, ↓al_6s, ↓av_6s, ↓aq_6s, ↓ai_7s, ↓al_7s, ↓av_7s, ↓aq_7s, ↓an_l2, ↓bk_9007, ↓Sg_9006, ↓kp_9007_20, ↓an_t hc0, ↓an_rv hc0, ↓oW_e hc1, ↓bt1 hc2, ↓bt2 hc2]
      exact hs
    · replace hs := oW_f hs hc2
      by_cases hc3 : r1 = (nI 32)
      · replace hs := bW_t hs hc3
        simp (implicitDefEqProofs := false) only [↓hG, ↓hJf, ↓px_vc, ↓px_ex, ↓px_jp, ↓rq_gi_0, ↓rq_gi_S, ↓rq_gl_0, ↓rq_gl_S, ↓rq_gr_0, ↓rq_gr_S, ↓rq_s1_0, ↓rq_s1_1, ↓rq_s1_S, ↓rq_s2_0, ↓rq_s2_1, ↓rq_s2_S, ↓rq_nl_n, ↓rq_nl_i, ↓rq_nl_l, ↓rq_nl_r, ↓rq_i1_s, ↓rq_l1_s, ↓r1_s, ↓rq_q1_s, ↓rq_i2_s, ↓rq_l2_s, ↓rq_il_s, ↓rq_d0_s, ↓rq_d1_i, ↓rq_d1_r, ↓rq_d2_l, ↓rq_d2_ii, ↓rq_d2_ir, ↓px_pop, ↓px_sp, ↓px_rd, ↓px_rf, ↓pn_xf, ↓rq_pt_0, ↓rq_pt_1, ↓rq_pt_2, ↓rq_pt_3, ↓px_sw, ↓pn_SW, ↓px_ma, ↓reduceIte, Nat.reduceEqDiff, Nat.reduceAdd, Nat.reduceSub, ↓Option.toList_some, ↓Option.toList_none, ↓List.cons_append, ↓List.nil_append, ↓kI_s, ↓kJ_s, ↓kN_s, ↓kO_s, ↓kZ_s, ↓kE_s, ↓an_rfl, ↓bt1 n00, ↓bt2 n00, ↓bf1 n10, ↓bf2 n10, ↓an_sz0, ↓an_sz1, ↓an_sz2, ↓an_sz3, ↓an_sz4, ↓an_ri, ↓an_rb0, ↓an_rb1, ↓an_b0, ↓an_b1, true_and, ↓ai_0s, ↓al_0s, ↓av_0s, ↓aq_0s, ↓ai_1s, ↓al_1s, ↓av_1s, ↓aq_1s, ↓ai_2s, ↓al_2s, ↓av_2s, ↓aq_2s, ↓ai_3s, ↓al_3s, ↓av_3s, ↓aq_3s, ↓ai_4s, ↓al_4s, ↓av_4s, ↓aq_4s, ↓ai_5s, ↓al_5s, ↓av_5s, ↓aq_5s, ↓ai_6s, ↓al_6s, ↓av_6s, ↓aq_6s, ↓ai_7s, ↓al_7s, ↓av_7s, ↓aq_7s, ↓an_l2, ↓bk_9007, ↓Sg_9006, ↓kp_9007_20, ↓an_t hc0, ↓an_rv hc0, ↓oW_e hc1, ↓bf1 hc2, ↓bf2 hc2, ↓bt1 hc3, ↓bt2 hc3]
        exact hs
      · replace hs := bW_f hs hc3
        simp (implicitDefEqProofs := false) only [↓hG, ↓hJf, ↓px_vc, ↓px_ex, ↓px_jp, ↓rq_gi_0, ↓rq_gi_S, ↓rq_gl_0, ↓rq_gl_S, ↓rq_gr_0, ↓rq_gr_S, ↓rq_s1_0, ↓rq_s1_1, ↓rq_s1_S, ↓rq_s2_0, ↓rq_s2_1, ↓rq_s2_S, ↓rq_nl_n, ↓rq_nl_i, ↓rq_nl_l, ↓rq_nl_r, ↓rq_i1_s, ↓rq_l1_s, ↓r1_s, ↓rq_q1_s, ↓rq_i2_s, ↓rq_l2_s, ↓rq_il_s, ↓rq_d0_s, ↓rq_d1_i, ↓rq_d1_r, ↓rq_d2_l, ↓rq_d2_ii, ↓rq_d2_ir, ↓px_pop, ↓px_sp, ↓px_rd, ↓px_rf, ↓pn_xf, ↓rq_pt_0, ↓rq_pt_1, ↓rq_pt_2, ↓rq_pt_3, ↓px_sw, ↓pn_SW, ↓px_ma, ↓reduceIte, Nat.reduceEqDiff, Nat.reduceAdd, Nat.reduceSub, ↓Option.toList_some, ↓Option.toList_none, ↓List.cons_append, ↓List.nil_append, ↓kI_s, ↓kJ_s, ↓kN_s, ↓kO_s, ↓kZ_s, ↓kE_s, ↓an_rfl, ↓bt1 n00, ↓bt2 n00, ↓bf1 n10, ↓bf2 n10, ↓an_sz0, ↓an_sz1, ↓an_sz2, ↓an_sz3, ↓an_sz4, ↓an_ri, ↓an_rb0, ↓an_rb1, ↓an_b0, ↓an_b1, true_and, ↓ai_0s, ↓al_0s, ↓av_0s, ↓aq_0s, ↓ai_1s, ↓al_1s, ↓av_1s, ↓aq_1s, ↓ai_2s, ↓al_2s, ↓av_2s, ↓aq_2s, ↓ai_3s, ↓al_3s, ↓av_3s, ↓aq_3s, ↓ai_4s, ↓al_4s, ↓av_4s, ↓aq_4s, ↓ai_5s, ↓al_5s, ↓av_5s, ↓aq_5s, ↓ai_6s, ↓al_6s, ↓av_6s, ↓aq_6s, ↓ai_7s, ↓al_7s, ↓av_7s, ↓aq_7s, ↓an_l2, ↓bk_9007, ↓Sg_9006, ↓kp_9007_20, ↓an_t hc0, ↓an_rv hc0, ↓oW_e hc1, ↓bf1 hc2, ↓bf2 hc2, ↓bf1 hc3, ↓bf2 hc3]
        rw [oW_some] at hs
        exact hs
def Sg_9008 (g : px_M → Nat → Int32 → Option (Int32)) : px_S := fun av σ k => av_0 av (fun x0 av => ai_1 av (fun x1 av => av = [] ∧ oW (g σ x0 x1) (fun r => k (some (.inl r)) σ)))
/-- NoThree$Reader.isLetter(I)Z -/
noncomputable def f_9008_24 (tab : px_T) (σ : px_M) : Option (Int32) := some ((nI 0))
noncomputable def f_9008 (tab : px_T) (σ : px_M) (x0 : Nat) (x1 : Int32) : Option (Int32) := gd (px_obj (px_lay tab x0) 9) ((f_9006 tab σ x0 x1).bind fun r1 => if r1 < (nI 97) then (f_9008_24 tab σ) else (if (nI 122) < r1 then (f_9008_24 tab σ) else (some ((nI 1)))))
def kp_9008_24 (Q : px_M → Prop) : px_P := fun ls st τ => st = [] ∧ kZ ls (fun ls => kZ ls (fun ls => kE ls (Q τ)))
theorem kq_9008_24 {C : px_C} {k : Option px_V → px_M → Prop} {Q : px_M → Prop} (H : ∀ (τ : px_M), Q τ → ∀ (z0 : Option px_V) (z1 : Option px_V), px_W C k 24 [z0, z1] [] τ) : ∀ ls st τ, kp_9008_24 Q ls st τ → px_W C k 24 ls st τ := by
  intro ls st τ hz
  obtain ⟨ez, h0⟩ := hz
  obtain ⟨z0, l0, e0, h1⟩ := kZ_sp h0
  obtain ⟨z1, l1, e1, h2⟩ := kZ_sp h1
  obtain ⟨ey, hy⟩ := kE_sp h2
  subst ez
  subst ey
  subst e1
  subst e0
  exact H τ hy z0 z1
set_option maxHeartbeats 4000000 in
set_option maxRecDepth 100000 in
theorem rl_9008_24 {C : px_C} (hn : px_nd (px_tb C)) {h : Nat} (hh : 2 ≤ h) (hC : px_ok C pn_i9008 h) {k : Option px_V → px_M → Prop} {σ : px_M} (hs : oW (f_9008_24 (px_tb C) σ) (fun r => k (some (.inl r)) σ)) : ∀ (z0 : Option px_V) (z1 : Option px_V), px_W C k 24 [z0, z1] [] σ := by
  intro z0 z1
  refine px_runH (h - 1) ck_9008 [] [] 80 2 (some .boolean) rfl rfl hC px_nosp (by omega) px_nocut (fun G Jf hG hJf => ?_)
  unfold f_9008_24 at hs
  simp (implicitDefEqProofs := false) only [↓hG, ↓hJf, ↓px_vc, ↓px_ex, ↓px_jp, ↓rq_gi_0, ↓rq_gi_S, ↓rq_gl_0, ↓rq_gl_S, ↓rq_gr_0, ↓rq_gr_S, ↓rq_s1_0, ↓rq_s1_1, ↓rq_s1_S, ↓rq_s2_0, ↓rq_s2_1, ↓rq_s2_S, ↓rq_nl_n, ↓rq_nl_i, ↓rq_nl_l, ↓rq_nl_r, ↓rq_i1_s, ↓rq_l1_s, ↓r1_s, ↓rq_q1_s, ↓rq_i2_s, ↓rq_l2_s, ↓rq_il_s, ↓rq_d0_s, ↓rq_d1_i, ↓rq_d1_r, ↓rq_d2_l, ↓rq_d2_ii, ↓rq_d2_ir, ↓px_pop, ↓px_sp, ↓px_rd, ↓px_rf, ↓pn_xf, ↓rq_pt_0, ↓rq_pt_1, ↓rq_pt_2, ↓rq_pt_3, ↓px_sw, ↓pn_SW, ↓px_ma, ↓reduceIte, Nat.reduceEqDiff, Nat.reduceAdd, Nat.reduceSub, ↓Option.toList_some, ↓Option.toList_none, ↓List.cons_append, ↓List.nil_append, ↓kI_s, ↓kJ_s, ↓kN_s, ↓kO_s, ↓kZ_s, ↓kE_s, ↓an_rfl, ↓bt1 n00, ↓bt2 n00, ↓bf1 n10, ↓bf2 n10, ↓an_sz0, ↓an_sz1, ↓an_sz2, ↓an_sz3, ↓an_sz4, ↓an_ri, ↓an_rb0, ↓an_rb1, ↓an_b0, ↓an_b1, true_and, ↓ai_0s, ↓al_0s, ↓av_0s, ↓aq_0s, ↓ai_1s, ↓al_1s, ↓av_1s, ↓aq_1s, ↓ai_2s, ↓al_2s, ↓av_2s, ↓aq_2s, ↓ai_3s, ↓al_3s, ↓av_3s, ↓aq_3s, ↓ai_4s, ↓al_4s, ↓av_4s, ↓aq_4s, ↓ai_5s, ↓al_5s, ↓av_5s, ↓aq_5s, ↓ai_6s, ↓al_6s, ↓av_6s, ↓aq_6s, ↓ai_7s, ↓al_7s, ↓av_7s, ↓aq_7s, ↓an_l2, ↓bk_9008]
  rw [oW_some] at hs
  exact hs
set_option maxHeartbeats 4000000 in
set_option maxRecDepth 100000 in
theorem mf_9008 {tab : px_T} (hn : px_nd tab) {h : Nat} (hh : 2 ≤ h) : px_Ok tab pn_i9008 h (Sg_9008 (f_9008 tab)) := by
  refine px_mth hn (by decide +kernel) (fun av σ k hS => ?_) (fun C hT hC av σ k hS => ?_)
  · obtain ⟨x0, av0, e0, h0⟩ := av_0p hS
    obtain ⟨x1, av1, e1, h1⟩ := ai_1p h0
    obtain ⟨ez, hs⟩ := h1
    subst ez
    subst e1
    subst e0
    exact Nat.le_of_ble_eq_true rfl
  · obtain ⟨x0, av0, e0, h0⟩ := av_0p hS
    obtain ⟨x1, av1, e1, h1⟩ := ai_1p h0
    obtain ⟨ez, hs⟩ := h1
    subst ez
    subst e1
    subst e0
    subst hT
    show px_W C k 0 [some (.inr (.inr (some x0))), some (.inl x1)] [] σ
    refine px_runH (h - 1) ck_9008 [(9006, Sg_9006 (f_9006 (px_tb C)))] [(24, kp_9008_24 (fun τ => τ = σ ∧ oW (f_9008_24 (px_tb C) τ) (fun r => k (some (.inl r)) σ)))] 80 2 (some .boolean) rfl rfl hC (px_sp1 (mf_9006 hn (by omega)) px_nosp) (by omega) (px_cut1 (kq_9008_24 (fun τ hq => by obtain ⟨rfl, hq⟩ := hq; exact rl_9008_24 hn (by omega) hC  hq)) px_nocut) (fun G Jf hG hJf => ?_)
    unfold f_9008 at hs
    obtain ⟨hc0, hs⟩ := oW_gx hs
    obtain ⟨r1, hc1, hs⟩ := oW_bx hs
    by_cases hc2 : r1 < (nI 97)
    · replace hs := oW_t hs hc2
      simp (implicitDefEqProofs := false) only [↓hG, ↓hJf, ↓px_vc, ↓px_ex, ↓px_jp, ↓rq_gi_0, ↓rq_gi_S, ↓rq_gl_0, ↓rq_gl_S, ↓rq_gr_0, ↓rq_gr_S, ↓rq_s1_0, ↓rq_s1_1, ↓rq_s1_S, ↓rq_s2_0, ↓rq_s2_1, ↓rq_s2_S, ↓rq_nl_n, ↓rq_nl_i, ↓rq_nl_l, ↓rq_nl_r, ↓rq_i1_s, ↓rq_l1_s, ↓r1_s, ↓rq_q1_s, ↓rq_i2_s, ↓rq_l2_s, ↓rq_il_s, ↓rq_d0_s, ↓rq_d1_i, ↓rq_d1_r, ↓rq_d2_l, ↓rq_d2_ii, ↓rq_d2_ir, ↓px_pop, ↓px_sp, ↓px_rd, ↓px_rf, ↓pn_xf, ↓rq_pt_0, ↓rq_pt_1, ↓rq_pt_2, ↓rq_pt_3, ↓px_sw, ↓pn_SW, ↓px_ma, ↓reduceIte, Nat.reduceEqDiff, Nat.reduceAdd, Nat.reduceSub, ↓Option.toList_some, ↓Option.toList_none, ↓List.cons_append, ↓List.nil_append, ↓kI_s, ↓kJ_s, ↓kN_s, ↓kO_s, ↓kZ_s, ↓kE_s, ↓an_rfl, ↓bt1 n00, ↓bt2 n00, ↓bf1 n10, ↓bf2 n10, ↓an_sz0, ↓an_sz1, ↓an_sz2, ↓an_sz3, ↓an_sz4, ↓an_ri, ↓an_rb0, ↓an_rb1, ↓an_b0, ↓an_b1, true_and, ↓ai_0s, ↓al_0s, ↓av_0s, ↓aq_0s, ↓ai_1s, ↓al_1s, ↓av_1s, ↓aq_1s, ↓ai_2s, ↓al_2s, ↓av_2s, ↓aq_2s, ↓ai_3s, ↓al_3s, ↓av_3s, ↓aq_3s, ↓ai_4s, ↓al_4s, ↓av_4s, ↓aq_4s, ↓ai_5s, ↓al_5s, ↓av_5s, ↓aq_5s, ↓ai_6s, ↓al_6s, ↓av_6s, ↓aq_6s, ↓ai_7s, ↓al_7s, ↓av_7s, ↓aq_7s, ↓an_l2, ↓bk_9008, ↓Sg_9006, ↓kp_9008_24, ↓an_t hc0, ↓an_rv hc0, ↓oW_e hc1, ↓bt1 hc2, ↓bt2 hc2]
      exact hs
    · replace hs := oW_f hs hc2
      by_cases hc3 : (nI 122) < r1
      · replace hs := oW_t hs hc3
        simp (implicitDefEqProofs := false) only [↓hG, ↓hJf, ↓px_vc, ↓px_ex, ↓px_jp, ↓rq_gi_0, ↓rq_gi_S, ↓rq_gl_0, ↓rq_gl_S, ↓rq_gr_0, ↓rq_gr_S, ↓rq_s1_0, ↓rq_s1_1, ↓rq_s1_S, ↓rq_s2_0, ↓rq_s2_1, ↓rq_s2_S, ↓rq_nl_n, ↓rq_nl_i, ↓rq_nl_l, ↓rq_nl_r, ↓rq_i1_s, ↓rq_l1_s, ↓r1_s, ↓rq_q1_s, ↓rq_i2_s, ↓rq_l2_s, ↓rq_il_s, ↓rq_d0_s, ↓rq_d1_i, ↓rq_d1_r, ↓rq_d2_l, ↓rq_d2_ii, ↓rq_d2_ir, ↓px_pop, ↓px_sp, ↓px_rd, ↓px_rf, ↓pn_xf, ↓rq_pt_0, ↓rq_pt_1, ↓rq_pt_2, ↓rq_pt_3, ↓px_sw, ↓pn_SW, ↓px_ma, ↓reduceIte, Nat.reduceEqDiff, Nat.reduceAdd, Nat.reduceSub, ↓Option.toList_some, ↓Option.toList_none, ↓List.cons_append, ↓List.nil_append, ↓kI_s, ↓kJ_s, ↓kN_s, ↓kO_s, ↓kZ_s, ↓kE_s, ↓an_rfl, ↓bt1 n00, ↓bt2 n00, ↓bf1 n10, ↓bf2 n10, ↓an_sz0, ↓an_sz1, ↓an_sz2, ↓an_sz3, ↓an_sz4, ↓an_ri, ↓an_rb0, ↓an_rb1, ↓an_b0, ↓an_b1, true_and, ↓ai_0s, ↓al_0s, ↓av_0s, ↓aq_0s, ↓ai_1s, ↓al_1s, ↓av_1s, ↓aq_1s, ↓ai_2s, ↓al_2s, ↓av_2s, ↓aq_2s, ↓ai_3s, ↓al_3s, ↓av_3s, ↓aq_3s, ↓ai_4s, ↓al_4s, ↓av_4s, ↓aq_4s, ↓ai_5s, ↓al_5s, ↓av_5s, ↓aq_5s, ↓ai_6s, ↓al_6s, ↓av_6s, ↓aq_6s, ↓ai_7s, ↓al_7s, ↓av_7s, ↓aq_7s, ↓an_l2, ↓bk_9008, ↓Sg_9006, ↓kp_9008_24, ↓an_t hc0, ↓an_rv hc0, ↓oW_e hc1, ↓bf1 hc2, ↓bf2 hc2, ↓bt1 hc3, ↓bt2 hc3]
        exact hs
      · replace hs := oW_f hs hc3
        simp (implicitDefEqProofs := false) only [↓hG, ↓hJf, ↓px_vc, ↓px_ex, ↓px_jp, ↓rq_gi_0, ↓rq_gi_S, ↓rq_gl_0, ↓rq_gl_S, ↓rq_gr_0, ↓rq_gr_S, ↓rq_s1_0, ↓rq_s1_1, ↓rq_s1_S, ↓rq_s2_0, ↓rq_s2_1, ↓rq_s2_S, ↓rq_nl_n, ↓rq_nl_i, ↓rq_nl_l, ↓rq_nl_r, ↓rq_i1_s, ↓rq_l1_s, ↓r1_s, ↓rq_q1_s, ↓rq_i2_s, ↓rq_l2_s, ↓rq_il_s, ↓rq_d0_s, ↓rq_d1_i, ↓rq_d1_r, ↓rq_d2_l, ↓rq_d2_ii, ↓rq_d2_ir, ↓px_pop, ↓px_sp, ↓px_rd, ↓px_rf, ↓pn_xf, ↓rq_pt_0, ↓rq_pt_1, ↓rq_pt_2, ↓rq_pt_3, ↓px_sw, ↓pn_SW, ↓px_ma, ↓reduceIte, Nat.reduceEqDiff, Nat.reduceAdd, Nat.reduceSub, ↓Option.toList_some, ↓Option.toList_none, ↓List.cons_append, ↓List.nil_append, ↓kI_s, ↓kJ_s, ↓kN_s, ↓kO_s, ↓kZ_s, ↓kE_s, ↓an_rfl, ↓bt1 n00, ↓bt2 n00, ↓bf1 n10, ↓bf2 n10, ↓an_sz0, ↓an_sz1, ↓an_sz2, ↓an_sz3, ↓an_sz4, ↓an_ri, ↓an_rb0, ↓an_rb1, ↓an_b0, ↓an_b1, true_and, ↓ai_0s, ↓al_0s, ↓av_0s, ↓aq_0s, ↓ai_1s, ↓al_1s, ↓av_1s, ↓aq_1s, ↓ai_2s, ↓al_2s, ↓av_2s, ↓aq_2s, ↓ai_3s, ↓al_3s, ↓av_3s, ↓aq_3s, ↓ai_4s, ↓al_4s, ↓av_4s, ↓aq_4s, ↓ai_5s, ↓al_5s, ↓av_5s, ↓aq_5s, ↓ai_6s, ↓al_6s, ↓av_6s, ↓aq_6s, ↓ai_7s, ↓al_7s, ↓av_7s, ↓aq_7s, ↓an_l2, ↓bk_9008, ↓Sg_9006, ↓kp_9008_24, ↓an_t hc0, ↓an_rv hc0, ↓oW_e hc1, ↓bf1 hc2, ↓bf2 hc2, ↓bf1 hc3, ↓bf2 hc3]
        rw [oW_some] at hs
        exact hs
def Sg_9009 (g : px_M → Nat → Int32 → Option (Int32)) : px_S := fun av σ k => av_0 av (fun x0 av => ai_1 av (fun x1 av => av = [] ∧ oW (g σ x0 x1) (fun r => k (some (.inl r)) σ)))
/-- NoThree$Reader.isDigit(I)Z -/
noncomputable def f_9009_24 (tab : px_T) (σ : px_M) : Option (Int32) := some ((nI 0))
noncomputable def f_9009 (tab : px_T) (σ : px_M) (x0 : Nat) (x1 : Int32) : Option (Int32) := gd (px_obj (px_lay tab x0) 9) ((f_9006 tab σ x0 x1).bind fun r1 => if r1 < (nI 48) then (f_9009_24 tab σ) else (if (nI 57) < r1 then (f_9009_24 tab σ) else (some ((nI 1)))))
def kp_9009_24 (Q : px_M → Prop) : px_P := fun ls st τ => st = [] ∧ kZ ls (fun ls => kZ ls (fun ls => kE ls (Q τ)))
theorem kq_9009_24 {C : px_C} {k : Option px_V → px_M → Prop} {Q : px_M → Prop} (H : ∀ (τ : px_M), Q τ → ∀ (z0 : Option px_V) (z1 : Option px_V), px_W C k 24 [z0, z1] [] τ) : ∀ ls st τ, kp_9009_24 Q ls st τ → px_W C k 24 ls st τ := by
  intro ls st τ hz
  obtain ⟨ez, h0⟩ := hz
  obtain ⟨z0, l0, e0, h1⟩ := kZ_sp h0
  obtain ⟨z1, l1, e1, h2⟩ := kZ_sp h1
  obtain ⟨ey, hy⟩ := kE_sp h2
  subst ez
  subst ey
  subst e1
  subst e0
  exact H τ hy z0 z1
set_option maxHeartbeats 4000000 in
set_option maxRecDepth 100000 in
theorem rl_9009_24 {C : px_C} (hn : px_nd (px_tb C)) {h : Nat} (hh : 2 ≤ h) (hC : px_ok C pn_i9009 h) {k : Option px_V → px_M → Prop} {σ : px_M} (hs : oW (f_9009_24 (px_tb C) σ) (fun r => k (some (.inl r)) σ)) : ∀ (z0 : Option px_V) (z1 : Option px_V), px_W C k 24 [z0, z1] [] σ := by
  intro z0 z1
  refine px_runH (h - 1) ck_9009 [] [] 80 2 (some .boolean) rfl rfl hC px_nosp (by omega) px_nocut (fun G Jf hG hJf => ?_)
  unfold f_9009_24 at hs
  simp (implicitDefEqProofs := false) only [↓hG, ↓hJf, ↓px_vc, ↓px_ex, ↓px_jp, ↓rq_gi_0, ↓rq_gi_S, ↓rq_gl_0, ↓rq_gl_S, ↓rq_gr_0, ↓rq_gr_S, ↓rq_s1_0, ↓rq_s1_1, ↓rq_s1_S, ↓rq_s2_0, ↓rq_s2_1, ↓rq_s2_S, ↓rq_nl_n, ↓rq_nl_i, ↓rq_nl_l, ↓rq_nl_r, ↓rq_i1_s, ↓rq_l1_s, ↓r1_s, ↓rq_q1_s, ↓rq_i2_s, ↓rq_l2_s, ↓rq_il_s, ↓rq_d0_s, ↓rq_d1_i, ↓rq_d1_r, ↓rq_d2_l, ↓rq_d2_ii, ↓rq_d2_ir, ↓px_pop, ↓px_sp, ↓px_rd, ↓px_rf, ↓pn_xf, ↓rq_pt_0, ↓rq_pt_1, ↓rq_pt_2, ↓rq_pt_3, ↓px_sw, ↓pn_SW, ↓px_ma, ↓reduceIte, Nat.reduceEqDiff, Nat.reduceAdd, Nat.reduceSub, ↓Option.toList_some, ↓Option.toList_none, ↓List.cons_append, ↓List.nil_append, ↓kI_s, ↓kJ_s, ↓kN_s, ↓kO_s, ↓kZ_s, ↓kE_s, ↓an_rfl, ↓bt1 n00, ↓bt2 n00, ↓bf1 n10, ↓bf2 n10, ↓an_sz0, ↓an_sz1, ↓an_sz2, ↓an_sz3, ↓an_sz4, ↓an_ri, ↓an_rb0, ↓an_rb1, ↓an_b0, ↓an_b1, true_and, ↓ai_0s, ↓al_0s, ↓av_0s, ↓aq_0s, ↓ai_1s, ↓al_1s, ↓av_1s, ↓aq_1s, ↓ai_2s, ↓al_2s, ↓av_2s, ↓aq_2s, ↓ai_3s, ↓al_3s, ↓av_3s, ↓aq_3s, ↓ai_4s, ↓al_4s, ↓av_4s, ↓aq_4s, ↓ai_5s, ↓al_5s, ↓av_5s, ↓aq_5s, ↓ai_6s, ↓al_6s, ↓av_6s, ↓aq_6s, ↓ai_7s, ↓al_7s, ↓av_7s, ↓aq_7s, ↓an_l2, ↓bk_9009]
  rw [oW_some] at hs
  exact hs
set_option maxHeartbeats 4000000 in
set_option maxRecDepth 100000 in
theorem mf_9009 {tab : px_T} (hn : px_nd tab) {h : Nat} (hh : 2 ≤ h) : px_Ok tab pn_i9009 h (Sg_9009 (f_9009 tab)) := by
  refine px_mth hn (by decide +kernel) (fun av σ k hS => ?_) (fun C hT hC av σ k hS => ?_)
  · obtain ⟨x0, av0, e0, h0⟩ := av_0p hS
    obtain ⟨x1, av1, e1, h1⟩ := ai_1p h0
    obtain ⟨ez, hs⟩ := h1
    subst ez
    subst e1
    subst e0
    exact Nat.le_of_ble_eq_true rfl
  · obtain ⟨x0, av0, e0, h0⟩ := av_0p hS
    obtain ⟨x1, av1, e1, h1⟩ := ai_1p h0
    obtain ⟨ez, hs⟩ := h1
    subst ez
    subst e1
    subst e0
    subst hT
    show px_W C k 0 [some (.inr (.inr (some x0))), some (.inl x1)] [] σ
    refine px_runH (h - 1) ck_9009 [(9006, Sg_9006 (f_9006 (px_tb C)))] [(24, kp_9009_24 (fun τ => τ = σ ∧ oW (f_9009_24 (px_tb C) τ) (fun r => k (some (.inl r)) σ)))] 80 2 (some .boolean) rfl rfl hC (px_sp1 (mf_9006 hn (by omega)) px_nosp) (by omega) (px_cut1 (kq_9009_24 (fun τ hq => by obtain ⟨rfl, hq⟩ := hq; exact rl_9009_24 hn (by omega) hC  hq)) px_nocut) (fun G Jf hG hJf => ?_)
    unfold f_9009 at hs
    obtain ⟨hc0, hs⟩ := oW_gx hs
    obtain ⟨r1, hc1, hs⟩ := oW_bx hs
    by_cases hc2 : r1 < (nI 48)
    · replace hs := oW_t hs hc2
      simp (implicitDefEqProofs := false) only [↓hG, ↓hJf, ↓px_vc, ↓px_ex, ↓px_jp, ↓rq_gi_0, ↓rq_gi_S, ↓rq_gl_0, ↓rq_gl_S, ↓rq_gr_0, ↓rq_gr_S, ↓rq_s1_0, ↓rq_s1_1, ↓rq_s1_S, ↓rq_s2_0, ↓rq_s2_1, ↓rq_s2_S, ↓rq_nl_n, ↓rq_nl_i, ↓rq_nl_l, ↓rq_nl_r, ↓rq_i1_s, ↓rq_l1_s, ↓r1_s, ↓rq_q1_s, ↓rq_i2_s, ↓rq_l2_s, ↓rq_il_s, ↓rq_d0_s, ↓rq_d1_i, ↓rq_d1_r, ↓rq_d2_l, ↓rq_d2_ii, ↓rq_d2_ir, ↓px_pop, ↓px_sp, ↓px_rd, ↓px_rf, ↓pn_xf, ↓rq_pt_0, ↓rq_pt_1, ↓rq_pt_2, ↓rq_pt_3, ↓px_sw, ↓pn_SW, ↓px_ma, ↓reduceIte, Nat.reduceEqDiff, Nat.reduceAdd, Nat.reduceSub, ↓Option.toList_some, ↓Option.toList_none, ↓List.cons_append, ↓List.nil_append, ↓kI_s, ↓kJ_s, ↓kN_s, ↓kO_s, ↓kZ_s, ↓kE_s, ↓an_rfl, ↓bt1 n00, ↓bt2 n00, ↓bf1 n10, ↓bf2 n10, ↓an_sz0, ↓an_sz1, ↓an_sz2, ↓an_sz3, ↓an_sz4, ↓an_ri, ↓an_rb0, ↓an_rb1, ↓an_b0, ↓an_b1, true_and, ↓ai_0s, ↓al_0s, ↓av_0s, ↓aq_0s, ↓ai_1s, ↓al_1s, ↓av_1s, ↓aq_1s, ↓ai_2s, ↓al_2s, ↓av_2s, ↓aq_2s, ↓ai_3s, ↓al_3s, ↓av_3s, ↓aq_3s, ↓ai_4s, ↓al_4s, ↓av_4s, ↓aq_4s, ↓ai_5s, ↓al_5s, ↓av_5s, ↓aq_5s, ↓ai_6s, ↓al_6s, ↓av_6s, ↓aq_6s, ↓ai_7s, ↓al_7s, ↓av_7s, ↓aq_7s, ↓an_l2, ↓bk_9009, ↓Sg_9006, ↓kp_9009_24, ↓an_t hc0, ↓an_rv hc0, ↓oW_e hc1, ↓bt1 hc2, ↓bt2 hc2]
      exact hs
    · replace hs := oW_f hs hc2
      by_cases hc3 : (nI 57) < r1
      · replace hs := oW_t hs hc3
        simp (implicitDefEqProofs := false) only [↓hG, ↓hJf, ↓px_vc, ↓px_ex, ↓px_jp, ↓rq_gi_0, ↓rq_gi_S, ↓rq_gl_0, ↓rq_gl_S, ↓rq_gr_0, ↓rq_gr_S, ↓rq_s1_0, ↓rq_s1_1, ↓rq_s1_S, ↓rq_s2_0, ↓rq_s2_1, ↓rq_s2_S, ↓rq_nl_n, ↓rq_nl_i, ↓rq_nl_l, ↓rq_nl_r, ↓rq_i1_s, ↓rq_l1_s, ↓r1_s, ↓rq_q1_s, ↓rq_i2_s, ↓rq_l2_s, ↓rq_il_s, ↓rq_d0_s, ↓rq_d1_i, ↓rq_d1_r, ↓rq_d2_l, ↓rq_d2_ii, ↓rq_d2_ir, ↓px_pop, ↓px_sp, ↓px_rd, ↓px_rf, ↓pn_xf, ↓rq_pt_0, ↓rq_pt_1, ↓rq_pt_2, ↓rq_pt_3, ↓px_sw, ↓pn_SW, ↓px_ma, ↓reduceIte, Nat.reduceEqDiff, Nat.reduceAdd, Nat.reduceSub, ↓Option.toList_some, ↓Option.toList_none, ↓List.cons_append, ↓List.nil_append, ↓kI_s, ↓kJ_s, ↓kN_s, ↓kO_s, ↓kZ_s, ↓kE_s, ↓an_rfl, ↓bt1 n00, ↓bt2 n00, ↓bf1 n10, ↓bf2 n10, ↓an_sz0, ↓an_sz1, ↓an_sz2, ↓an_sz3, ↓an_sz4, ↓an_ri, ↓an_rb0, ↓an_rb1, ↓an_b0, ↓an_b1, true_and, ↓ai_0s, ↓al_0s, ↓av_0s, ↓aq_0s, ↓ai_1s, ↓al_1s, ↓av_1s, ↓aq_1s, ↓ai_2s, ↓al_2s, ↓av_2s, ↓aq_2s, ↓ai_3s, ↓al_3s, ↓av_3s, ↓aq_3s, ↓ai_4s, ↓al_4s, ↓av_4s, ↓aq_4s, ↓ai_5s, ↓al_5s, ↓av_5s, ↓aq_5s, ↓ai_6s, ↓al_6s, ↓av_6s, ↓aq_6s, ↓ai_7s, ↓al_7s, ↓av_7s, ↓aq_7s, ↓an_l2, ↓bk_9009, ↓Sg_9006, ↓kp_9009_24, ↓an_t hc0, ↓an_rv hc0, ↓oW_e hc1, ↓bf1 hc2, ↓bf2 hc2, ↓bt1 hc3, ↓bt2 hc3]
        exact hs
      · replace hs := oW_f hs hc3
        simp (implicitDefEqProofs := false) only [↓hG, ↓hJf, ↓px_vc, ↓px_ex, ↓px_jp, ↓rq_gi_0, ↓rq_gi_S, ↓rq_gl_0, ↓rq_gl_S, ↓rq_gr_0, ↓rq_gr_S, ↓rq_s1_0, ↓rq_s1_1, ↓rq_s1_S, ↓rq_s2_0, ↓rq_s2_1, ↓rq_s2_S, ↓rq_nl_n, ↓rq_nl_i, ↓rq_nl_l, ↓rq_nl_r, ↓rq_i1_s, ↓rq_l1_s, ↓r1_s, ↓rq_q1_s, ↓rq_i2_s, ↓rq_l2_s, ↓rq_il_s, ↓rq_d0_s, ↓rq_d1_i, ↓rq_d1_r, ↓rq_d2_l, ↓rq_d2_ii, ↓rq_d2_ir, ↓px_pop, ↓px_sp, ↓px_rd, ↓px_rf, ↓pn_xf, ↓rq_pt_0, ↓rq_pt_1, ↓rq_pt_2, ↓rq_pt_3, ↓px_sw, ↓pn_SW, ↓px_ma, ↓reduceIte, Nat.reduceEqDiff, Nat.reduceAdd, Nat.reduceSub, ↓Option.toList_some, ↓Option.toList_none, ↓List.cons_append, ↓List.nil_append, ↓kI_s, ↓kJ_s, ↓kN_s, ↓kO_s, ↓kZ_s, ↓kE_s, ↓an_rfl, ↓bt1 n00, ↓bt2 n00, ↓bf1 n10, ↓bf2 n10, ↓an_sz0, ↓an_sz1, ↓an_sz2, ↓an_sz3, ↓an_sz4, ↓an_ri, ↓an_rb0, ↓an_rb1, ↓an_b0, ↓an_b1, true_and, ↓ai_0s, ↓al_0s, ↓av_0s, ↓aq_0s, ↓ai_1s, ↓al_1s, ↓av_1s, ↓aq_1s, ↓ai_2s, ↓al_2s, ↓av_2s, ↓aq_2s, ↓ai_3s, ↓al_3s, ↓av_3s, ↓aq_3s, ↓ai_4s, ↓al_4s, ↓av_4s, ↓aq_4s, ↓ai_5s, ↓al_5s, ↓av_5s, ↓aq_5s, ↓ai_6s, ↓al_6s, ↓av_6s, ↓aq_6s, ↓ai_7s, ↓al_7s, ↓av_7s, ↓aq_7s, ↓an_l2, ↓bk_9009, ↓Sg_9006, ↓kp_9009_24, ↓an_t hc0, ↓an_rv hc0, ↓oW_e hc1, ↓bf1 hc2, ↓bf2 hc2, ↓bf1 hc3, ↓bf2 hc3]
        rw [oW_some] at hs
        exact hs
def Sg_9010 (g : px_M → Nat → Int32 → Option (Int32)) : px_S := fun av σ k => av_0 av (fun x0 av => ai_1 av (fun x1 av => av = [] ∧ oW (g σ x0 x1) (fun r => k (some (.inl r)) σ)))
/-- NoThree$Reader.endOfToken(I)I -/
noncomputable def f_9010_64 (tab : px_T) (σ : px_M) (x2 : Int32) : Option (Int32) := some (x2)
noncomputable def F_9010_42 (tab : px_T) (σ : px_M) (x0 : Nat) (x2 : Int32) : Option ((Int32) ⊕ (Int32)) := gd (px_obj (px_lay tab x0) 9) (if ((σ).1 x0 7) ≤ x2 then (Option.map Sum.inr (f_9010_64 tab σ x2)) else ((f_9009 tab σ x0 x2).bind fun r1 => if r1 = nI 0 then (Option.map Sum.inr (f_9010_64 tab σ x2)) else (some (.inl ((x2 + (nI 1)))))))
noncomputable def f_9010_42 (tab : px_T) (σ : px_M) (x0 : Nat) (x2 : Int32) : Option (Int32) := lpO (fun s : Int32 => F_9010_42 tab σ x0 s) x2
theorem f_9010_42_eq (tab : px_T) (σ : px_M) (x0 : Nat) (x2 : Int32) : f_9010_42 tab σ x0 x2 = (F_9010_42 tab σ x0 x2).bind (Sum.elim (fun s => f_9010_42 tab σ x0 s) some) := lpO_eq _ _
noncomputable def F_9010_12 (tab : px_T) (σ : px_M) (x0 : Nat) (x2 : Int32) : Option ((Int32) ⊕ (Int32)) := gd (px_obj (px_lay tab x0) 9) (if ((σ).1 x0 7) ≤ x2 then (Option.map Sum.inr (f_9010_64 tab σ x2)) else ((f_9008 tab σ x0 x2).bind fun r1 => if r1 = nI 0 then (Option.map Sum.inr (f_9010_64 tab σ x2)) else (some (.inl ((x2 + (nI 1)))))))
noncomputable def f_9010_12 (tab : px_T) (σ : px_M) (x0 : Nat) (x2 : Int32) : Option (Int32) := lpO (fun s : Int32 => F_9010_12 tab σ x0 s) x2
theorem f_9010_12_eq (tab : px_T) (σ : px_M) (x0 : Nat) (x2 : Int32) : f_9010_12 tab σ x0 x2 = (F_9010_12 tab σ x0 x2).bind (Sum.elim (fun s => f_9010_12 tab σ x0 s) some) := lpO_eq _ _
noncomputable def f_9010_4 (tab : px_T) (σ : px_M) (x0 : Nat) (x1 : Int32) (x2 : Int32) : Option (Int32) := gd (px_obj (px_lay tab x0) 9) ((f_9008 tab σ x0 x1).bind fun r1 => if r1 = nI 0 then ((f_9009 tab σ x0 x1).bind fun r2 => if r2 = nI 0 then (f_9010_64 tab σ x2) else (f_9010_42 tab σ x0 x2)) else (f_9010_12 tab σ x0 x2))
noncomputable def f_9010 (tab : px_T) (σ : px_M) (x0 : Nat) (x1 : Int32) : Option (Int32) := f_9010_4 tab σ x0 x1 ((x1 + (nI 1)))
def kp_9010_64 (Q : Int32 → px_M → Prop) : px_P := fun ls st τ => st = [] ∧ kZ ls (fun ls => kZ ls (fun ls => kI ls (fun x2 ls => kE ls (Q x2 τ))))
theorem kq_9010_64 {C : px_C} {k : Option px_V → px_M → Prop} {Q : Int32 → px_M → Prop} (H : ∀ (x2 : Int32) (τ : px_M), Q x2 τ → ∀ (z0 : Option px_V) (z1 : Option px_V), px_W C k 64 [z0, z1, some (.inl x2)] [] τ) : ∀ ls st τ, kp_9010_64 Q ls st τ → px_W C k 64 ls st τ := by
  intro ls st τ hz
  obtain ⟨ez, h0⟩ := hz
  obtain ⟨z0, l0, e0, h1⟩ := kZ_sp h0
  obtain ⟨z1, l1, e1, h2⟩ := kZ_sp h1
  obtain ⟨x2, l2, e2, h3⟩ := kI_sp h2
  obtain ⟨ey, hy⟩ := kE_sp h3
  subst ez
  subst ey
  subst e2
  subst e1
  subst e0
  exact H x2 τ hy z0 z1
def kp_9010_42 (Q : Nat → Int32 → px_M → Prop) : px_P := fun ls st τ => st = [] ∧ kN ls (fun x0 ls => kZ ls (fun ls => kI ls (fun x2 ls => kE ls (Q x0 x2 τ))))
theorem kq_9010_42 {C : px_C} {k : Option px_V → px_M → Prop} {Q : Nat → Int32 → px_M → Prop} (H : ∀ (x0 : Nat) (x2 : Int32) (τ : px_M), Q x0 x2 τ → ∀ (z1 : Option px_V), px_W C k 42 [some (.inr (.inr (some x0))), z1, some (.inl x2)] [] τ) : ∀ ls st τ, kp_9010_42 Q ls st τ → px_W C k 42 ls st τ := by
  intro ls st τ hz
  obtain ⟨ez, h0⟩ := hz
  obtain ⟨x0, l0, e0, h1⟩ := kN_sp h0
  obtain ⟨z1, l1, e1, h2⟩ := kZ_sp h1
  obtain ⟨x2, l2, e2, h3⟩ := kI_sp h2
  obtain ⟨ey, hy⟩ := kE_sp h3
  subst ez
  subst ey
  subst e2
  subst e1
  subst e0
  exact H x0 x2 τ hy z1
def kp_9010_12 (Q : Nat → Int32 → px_M → Prop) : px_P := fun ls st τ => st = [] ∧ kN ls (fun x0 ls => kZ ls (fun ls => kI ls (fun x2 ls => kE ls (Q x0 x2 τ))))
theorem kq_9010_12 {C : px_C} {k : Option px_V → px_M → Prop} {Q : Nat → Int32 → px_M → Prop} (H : ∀ (x0 : Nat) (x2 : Int32) (τ : px_M), Q x0 x2 τ → ∀ (z1 : Option px_V), px_W C k 12 [some (.inr (.inr (some x0))), z1, some (.inl x2)] [] τ) : ∀ ls st τ, kp_9010_12 Q ls st τ → px_W C k 12 ls st τ := by
  intro ls st τ hz
  obtain ⟨ez, h0⟩ := hz
  obtain ⟨x0, l0, e0, h1⟩ := kN_sp h0
  obtain ⟨z1, l1, e1, h2⟩ := kZ_sp h1
  obtain ⟨x2, l2, e2, h3⟩ := kI_sp h2
  obtain ⟨ey, hy⟩ := kE_sp h3
  subst ez
  subst ey
  subst e2
  subst e1
  subst e0
  exact H x0 x2 τ hy z1
def kp_9010_4 (Q : Nat → Int32 → Int32 → px_M → Prop) : px_P := fun ls st τ => st = [] ∧ kN ls (fun x0 ls => kI ls (fun x1 ls => kI ls (fun x2 ls => kE ls (Q x0 x1 x2 τ))))
theorem kq_9010_4 {C : px_C} {k : Option px_V → px_M → Prop} {Q : Nat → Int32 → Int32 → px_M → Prop} (H : ∀ (x0 : Nat) (x1 : Int32) (x2 : Int32) (τ : px_M), Q x0 x1 x2 τ → px_W C k 4 [some (.inr (.inr (some x0))), some (.inl x1), some (.inl x2)] [] τ) : ∀ ls st τ, kp_9010_4 Q ls st τ → px_W C k 4 ls st τ := by
  intro ls st τ hz
  obtain ⟨ez, h0⟩ := hz
  obtain ⟨x0, l0, e0, h1⟩ := kN_sp h0
  obtain ⟨x1, l1, e1, h2⟩ := kI_sp h1
  obtain ⟨x2, l2, e2, h3⟩ := kI_sp h2
  obtain ⟨ey, hy⟩ := kE_sp h3
  subst ez
  subst ey
  subst e2
  subst e1
  subst e0
  exact H x0 x1 x2 τ hy
set_option maxHeartbeats 4000000 in
set_option maxRecDepth 100000 in
theorem rl_9010_64 {C : px_C} (hn : px_nd (px_tb C)) {h : Nat} (hh : 3 ≤ h) (hC : px_ok C pn_i9010 h) {k : Option px_V → px_M → Prop} {x2 : Int32} {σ : px_M} (hs : oW (f_9010_64 (px_tb C) σ x2) (fun r => k (some (.inl r)) σ)) : ∀ (z0 : Option px_V) (z1 : Option px_V), px_W C k 64 [z0, z1, some (.inl x2)] [] σ := by
  intro z0 z1
  refine px_runH (h - 1) ck_9010 [] [] 80 3 (some .int) rfl rfl hC px_nosp (by omega) px_nocut (fun G Jf hG hJf => ?_)
  unfold f_9010_64 at hs
  simp (implicitDefEqProofs := false) only [↓hG, ↓hJf, ↓px_vc, ↓px_ex, ↓px_jp, ↓rq_gi_0, ↓rq_gi_S, ↓rq_gl_0, ↓rq_gl_S, ↓rq_gr_0, ↓rq_gr_S, ↓rq_s1_0, ↓rq_s1_1, ↓rq_s1_S, ↓rq_s2_0, ↓rq_s2_1, ↓rq_s2_S, ↓rq_nl_n, ↓rq_nl_i, ↓rq_nl_l, ↓rq_nl_r, ↓rq_i1_s, ↓rq_l1_s, ↓r1_s, ↓rq_q1_s, ↓rq_i2_s, ↓rq_l2_s, ↓rq_il_s, ↓rq_d0_s, ↓rq_d1_i, ↓rq_d1_r, ↓rq_d2_l, ↓rq_d2_ii, ↓rq_d2_ir, ↓px_pop, ↓px_sp, ↓px_rd, ↓px_rf, ↓pn_xf, ↓rq_pt_0, ↓rq_pt_1, ↓rq_pt_2, ↓rq_pt_3, ↓px_sw, ↓pn_SW, ↓px_ma, ↓reduceIte, Nat.reduceEqDiff, Nat.reduceAdd, Nat.reduceSub, ↓Option.toList_some, ↓Option.toList_none, ↓List.cons_append, ↓List.nil_append, ↓kI_s, ↓kJ_s, ↓kN_s, ↓kO_s, ↓kZ_s, ↓kE_s, ↓an_rfl, ↓bt1 n00, ↓bt2 n00, ↓bf1 n10, ↓bf2 n10, ↓an_sz0, ↓an_sz1, ↓an_sz2, ↓an_sz3, ↓an_sz4, ↓an_ri, ↓an_rb0, ↓an_rb1, ↓an_b0, ↓an_b1, true_and, ↓ai_0s, ↓al_0s, ↓av_0s, ↓aq_0s, ↓ai_1s, ↓al_1s, ↓av_1s, ↓aq_1s, ↓ai_2s, ↓al_2s, ↓av_2s, ↓aq_2s, ↓ai_3s, ↓al_3s, ↓av_3s, ↓aq_3s, ↓ai_4s, ↓al_4s, ↓av_4s, ↓aq_4s, ↓ai_5s, ↓al_5s, ↓av_5s, ↓aq_5s, ↓ai_6s, ↓al_6s, ↓av_6s, ↓aq_6s, ↓ai_7s, ↓al_7s, ↓av_7s, ↓aq_7s, ↓an_l3, ↓bk_9010]
  rw [oW_some] at hs
  exact hs
set_option maxHeartbeats 4000000 in
set_option maxRecDepth 100000 in
theorem rl_9010_42 {C : px_C} (hn : px_nd (px_tb C)) {h : Nat} (hh : 3 ≤ h) (hC : px_ok C pn_i9010 h) {k : Option px_V → px_M → Prop} {x0 : Nat} {σ : px_M} : ∀ s : Int32, oW (f_9010_42 (px_tb C) σ x0 s) (fun r => k (some (.inl r)) σ) → (fun s : Int32 => ∀ (z1 : Option px_V), px_W C k 42 [some (.inr (.inr (some x0))), z1, some (.inl s)] [] σ) s := by
  intro s h0
  refine lpO_sound (P := (fun s : Int32 => ∀ (z1 : Option px_V), px_W C k 42 [some (.inr (.inr (some x0))), z1, some (.inl s)] [] σ)) (fun s hs => ?_) h0
  revert hs
  generalize s = x2
  intro hs
  intro z1
  refine px_runH (h - 1) ck_9010 [(9009, Sg_9009 (f_9009 (px_tb C)))] [(42, kp_9010_42 (fun y0 y2 τ => y0 = x0 ∧ τ = σ ∧ (fun s : Int32 => ∀ (z1 : Option px_V), px_W C k 42 [some (.inr (.inr (some x0))), z1, some (.inl s)] [] σ) y2)), (64, kp_9010_64 (fun y2 τ => τ = σ ∧ oW (f_9010_64 (px_tb C) τ y2) (fun r => k (some (.inl r)) σ)))] 80 3 (some .int) rfl rfl hC (px_sp1 (mf_9009 hn (by omega)) px_nosp) (by omega) (px_cut1 (kq_9010_42 (fun y0 y2 τ hq => by obtain ⟨rfl, rfl, hq⟩ := hq; exact hq)) (px_cut1 (kq_9010_64 (fun y2 τ hq => by obtain ⟨rfl, hq⟩ := hq; exact rl_9010_64 hn (by omega) hC  hq)) px_nocut)) (fun G Jf hG hJf => ?_)
  replace hs : oW (F_9010_42 (px_tb C) σ x0 x2) _ := hs
  unfold F_9010_42 at hs
  obtain ⟨hc0, hs⟩ := oW_gx hs
  by_cases hc1 : ((σ).1 x0 7) ≤ x2
  · replace hs := oW_t hs hc1
    simp (implicitDefEqProofs := false) only [↓hG, ↓hJf, ↓px_vc, ↓px_ex, ↓px_jp, ↓rq_gi_0, ↓rq_gi_S, ↓rq_gl_0, ↓rq_gl_S, ↓rq_gr_0, ↓rq_gr_S, ↓rq_s1_0, ↓rq_s1_1, ↓rq_s1_S, ↓rq_s2_0, ↓rq_s2_1, ↓rq_s2_S, ↓rq_nl_n, ↓rq_nl_i, ↓rq_nl_l, ↓rq_nl_r, ↓rq_i1_s, ↓rq_l1_s, ↓r1_s, ↓rq_q1_s, ↓rq_i2_s, ↓rq_l2_s, ↓rq_il_s, ↓rq_d0_s, ↓rq_d1_i, ↓rq_d1_r, ↓rq_d2_l, ↓rq_d2_ii, ↓rq_d2_ir, ↓px_pop, ↓px_sp, ↓px_rd, ↓px_rf, ↓pn_xf, ↓rq_pt_0, ↓rq_pt_1, ↓rq_pt_2, ↓rq_pt_3, ↓px_sw, ↓pn_SW, ↓px_ma, ↓reduceIte, Nat.reduceEqDiff, Nat.reduceAdd, Nat.reduceSub, ↓Option.toList_some, ↓Option.toList_none, ↓List.cons_append, ↓List.nil_append, ↓kI_s, ↓kJ_s, ↓kN_s, ↓kO_s, ↓kZ_s, ↓kE_s, ↓an_rfl, ↓bt1 n00, ↓bt2 n00, ↓bf1 n10, ↓bf2 n10, ↓an_sz0, ↓an_sz1, ↓an_sz2, ↓an_sz3, ↓an_sz4, ↓an_ri, ↓an_rb0, ↓an_rb1, ↓an_b0, ↓an_b1, true_and, ↓ai_0s, ↓al_0s, ↓av_0s, ↓aq_0s, ↓ai_1s, ↓al_1s, ↓av_1s, ↓aq_1s, ↓ai_2s, ↓al_2s, ↓av_2s, ↓aq_2s, ↓ai_3s, ↓al_3s, ↓av_3s, ↓aq_3s, ↓ai_4s, ↓al_4s, ↓av_4s, ↓aq_4s, ↓ai_5s, ↓al_5s, ↓av_5s, ↓aq_5s, ↓ai_6s, ↓al_6s, ↓av_6s, ↓aq_6s, ↓ai_7s, ↓al_7s, ↓av_7s, ↓aq_7s, ↓an_l3, ↓bk_9010, ↓Sg_9009, ↓kp_9010_42, ↓kp_9010_64, ↓an_t hc0, ↓an_rv hc0, ↓bt1 hc1, ↓bt2 hc1]
    simp only [oW_map] at hs
    exact hs
  · replace hs := oW_f hs hc1
    obtain ⟨r1, hc2, hs⟩ := oW_bx hs
    by_cases hc3 : r1 = nI 0
    · replace hs := oW_t hs hc3
      simp (implicitDefEqProofs := false) only [↓hG, ↓hJf, ↓px_vc, ↓px_ex, ↓px_jp, ↓rq_gi_0, ↓rq_gi_S, ↓rq_gl_0, ↓rq_gl_S, ↓rq_gr_0, ↓rq_gr_S, ↓rq_s1_0, ↓rq_s1_1, ↓rq_s1_S, ↓rq_s2_0, ↓rq_s2_1, ↓rq_s2_S, ↓rq_nl_n, ↓rq_nl_i, ↓rq_nl_l, ↓rq_nl_r, ↓rq_i1_s, ↓rq_l1_s, ↓r1_s, ↓rq_q1_s, ↓rq_i2_s, ↓rq_l2_s, ↓rq_il_s, ↓rq_d0_s, ↓rq_d1_i, ↓rq_d1_r, ↓rq_d2_l, ↓rq_d2_ii, ↓rq_d2_ir, ↓px_pop, ↓px_sp, ↓px_rd, ↓px_rf, ↓pn_xf, ↓rq_pt_0, ↓rq_pt_1, ↓rq_pt_2, ↓rq_pt_3, ↓px_sw, ↓pn_SW, ↓px_ma, ↓reduceIte, Nat.reduceEqDiff, Nat.reduceAdd, Nat.reduceSub, ↓Option.toList_some, ↓Option.toList_none, ↓List.cons_append, ↓List.nil_append, ↓kI_s, ↓kJ_s, ↓kN_s, ↓kO_s, ↓kZ_s, ↓kE_s, ↓an_rfl, ↓bt1 n00, ↓bt2 n00, ↓bf1 n10, ↓bf2 n10, ↓an_sz0, ↓an_sz1, ↓an_sz2, ↓an_sz3, ↓an_sz4, ↓an_ri, ↓an_rb0, ↓an_rb1, ↓an_b0, ↓an_b1, true_and, ↓ai_0s, ↓al_0s, ↓av_0s, ↓aq_0s, ↓ai_1s, ↓al_1s, ↓av_1s, ↓aq_1s, ↓ai_2s, ↓al_2s, ↓av_2s, ↓aq_2s, ↓ai_3s, ↓al_3s, ↓av_3s, ↓aq_3s, ↓ai_4s, ↓al_4s, ↓av_4s, ↓aq_4s, ↓ai_5s, ↓al_5s, ↓av_5s, ↓aq_5s, ↓ai_6s, ↓al_6s, ↓av_6s, ↓aq_6s, ↓ai_7s, ↓al_7s, ↓av_7s, ↓aq_7s, ↓an_l3, ↓bk_9010, ↓Sg_9009, ↓kp_9010_42, ↓kp_9010_64, ↓an_t hc0, ↓an_rv hc0, ↓bf1 hc1, ↓bf2 hc1, ↓oW_e hc2, ↓bt1 hc3, ↓bt2 hc3]
      simp only [oW_map] at hs
      exact hs
    · replace hs := oW_f hs hc3
      simp (implicitDefEqProofs := false) only [↓hG, ↓hJf, ↓px_vc, ↓px_ex, ↓px_jp, ↓rq_gi_0, ↓rq_gi_S, ↓rq_gl_0, ↓rq_gl_S, ↓rq_gr_0, ↓rq_gr_S, ↓rq_s1_0, ↓rq_s1_1, ↓rq_s1_S, ↓rq_s2_0, ↓rq_s2_1, ↓rq_s2_S, ↓rq_nl_n, ↓rq_nl_i, ↓rq_nl_l, ↓rq_nl_r, ↓rq_i1_s, ↓rq_l1_s, ↓r1_s, ↓rq_q1_s, ↓rq_i2_s, ↓rq_l2_s, ↓rq_il_s, ↓rq_d0_s, ↓rq_d1_i, ↓rq_d1_r, ↓rq_d2_l, ↓rq_d2_ii, ↓rq_d2_ir, ↓px_pop, ↓px_sp, ↓px_rd, ↓px_rf, ↓pn_xf, ↓rq_pt_0, ↓rq_pt_1, ↓rq_pt_2, ↓rq_pt_3, ↓px_sw, ↓pn_SW, ↓px_ma, ↓reduceIte, Nat.reduceEqDiff, Nat.reduceAdd, Nat.reduceSub, ↓Option.toList_some, ↓Option.toList_none, ↓List.cons_append, ↓List.nil_append, ↓kI_s, ↓kJ_s, ↓kN_s, ↓kO_s, ↓kZ_s, ↓kE_s, ↓an_rfl, ↓bt1 n00, ↓bt2 n00, ↓bf1 n10, ↓bf2 n10, ↓an_sz0, ↓an_sz1, ↓an_sz2, ↓an_sz3, ↓an_sz4, ↓an_ri, ↓an_rb0, ↓an_rb1, ↓an_b0, ↓an_b1, true_and, ↓ai_0s, ↓al_0s, ↓av_0s, ↓aq_0s, ↓ai_1s, ↓al_1s, ↓av_1s, ↓aq_1s, ↓ai_2s, ↓al_2s, ↓av_2s, ↓aq_2s, ↓ai_3s, ↓al_3s, ↓av_3s, ↓aq_3s, ↓ai_4s, ↓al_4s, ↓av_4s, ↓aq_4s, ↓ai_5s, ↓al_5s, ↓av_5s, ↓aq_5s, ↓ai_6s, ↓al_6s, ↓av_6s, ↓aq_6s, ↓ai_7s, ↓al_7s, ↓av_7s, ↓aq_7s, ↓an_l3, ↓bk_9010, ↓Sg_9009, ↓kp_9010_42, ↓kp_9010_64, ↓an_t hc0, ↓an_rv hc0, ↓bf1 hc1, ↓bf2 hc1, ↓oW_e hc2, ↓bf1 hc3, ↓bf2 hc3]
      rw [oW_some] at hs
      exact hs
set_option maxHeartbeats 4000000 in
set_option maxRecDepth 100000 in
theorem rl_9010_12 {C : px_C} (hn : px_nd (px_tb C)) {h : Nat} (hh : 3 ≤ h) (hC : px_ok C pn_i9010 h) {k : Option px_V → px_M → Prop} {x0 : Nat} {σ : px_M} : ∀ s : Int32, oW (f_9010_12 (px_tb C) σ x0 s) (fun r => k (some (.inl r)) σ) → (fun s : Int32 => ∀ (z1 : Option px_V), px_W C k 12 [some (.inr (.inr (some x0))), z1, some (.inl s)] [] σ) s := by
  intro s h0
  refine lpO_sound (P := (fun s : Int32 => ∀ (z1 : Option px_V), px_W C k 12 [some (.inr (.inr (some x0))), z1, some (.inl s)] [] σ)) (fun s hs => ?_) h0
  revert hs
  generalize s = x2
  intro hs
  intro z1
  refine px_runH (h - 1) ck_9010 [(9008, Sg_9008 (f_9008 (px_tb C)))] [(12, kp_9010_12 (fun y0 y2 τ => y0 = x0 ∧ τ = σ ∧ (fun s : Int32 => ∀ (z1 : Option px_V), px_W C k 12 [some (.inr (.inr (some x0))), z1, some (.inl s)] [] σ) y2)), (64, kp_9010_64 (fun y2 τ => τ = σ ∧ oW (f_9010_64 (px_tb C) τ y2) (fun r => k (some (.inl r)) σ)))] 80 3 (some .int) rfl rfl hC (px_sp1 (mf_9008 hn (by omega)) px_nosp) (by omega) (px_cut1 (kq_9010_12 (fun y0 y2 τ hq => by obtain ⟨rfl, rfl, hq⟩ := hq; exact hq)) (px_cut1 (kq_9010_64 (fun y2 τ hq => by obtain ⟨rfl, hq⟩ := hq; exact rl_9010_64 hn (by omega) hC  hq)) px_nocut)) (fun G Jf hG hJf => ?_)
  replace hs : oW (F_9010_12 (px_tb C) σ x0 x2) _ := hs
  unfold F_9010_12 at hs
  obtain ⟨hc0, hs⟩ := oW_gx hs
  by_cases hc1 : ((σ).1 x0 7) ≤ x2
  · replace hs := oW_t hs hc1
    simp (implicitDefEqProofs := false) only [↓hG, ↓hJf, ↓px_vc, ↓px_ex, ↓px_jp, ↓rq_gi_0, ↓rq_gi_S, ↓rq_gl_0, ↓rq_gl_S, ↓rq_gr_0, ↓rq_gr_S, ↓rq_s1_0, ↓rq_s1_1, ↓rq_s1_S, ↓rq_s2_0, ↓rq_s2_1, ↓rq_s2_S, ↓rq_nl_n, ↓rq_nl_i, ↓rq_nl_l, ↓rq_nl_r, ↓rq_i1_s, ↓rq_l1_s, ↓r1_s, ↓rq_q1_s, ↓rq_i2_s, ↓rq_l2_s, ↓rq_il_s, ↓rq_d0_s, ↓rq_d1_i, ↓rq_d1_r, ↓rq_d2_l, ↓rq_d2_ii, ↓rq_d2_ir, ↓px_pop, ↓px_sp, ↓px_rd, ↓px_rf, ↓pn_xf, ↓rq_pt_0, ↓rq_pt_1, ↓rq_pt_2, ↓rq_pt_3, ↓px_sw, ↓pn_SW, ↓px_ma, ↓reduceIte, Nat.reduceEqDiff, Nat.reduceAdd, Nat.reduceSub, ↓Option.toList_some, ↓Option.toList_none, ↓List.cons_append, ↓List.nil_append, ↓kI_s, ↓kJ_s, ↓kN_s, ↓kO_s, ↓kZ_s, ↓kE_s, ↓an_rfl, ↓bt1 n00, ↓bt2 n00, ↓bf1 n10, ↓bf2 n10, ↓an_sz0, ↓an_sz1, ↓an_sz2, ↓an_sz3, ↓an_sz4, ↓an_ri, ↓an_rb0, ↓an_rb1, ↓an_b0, ↓an_b1, true_and, ↓ai_0s, ↓al_0s, ↓av_0s, ↓aq_0s, ↓ai_1s, ↓al_1s, ↓av_1s, ↓aq_1s, ↓ai_2s, ↓al_2s, ↓av_2s, ↓aq_2s, ↓ai_3s, ↓al_3s, ↓av_3s, ↓aq_3s, ↓ai_4s, ↓al_4s, ↓av_4s, ↓aq_4s, ↓ai_5s, ↓al_5s, ↓av_5s, ↓aq_5s, ↓ai_6s, ↓al_6s, ↓av_6s, ↓aq_6s, ↓ai_7s, ↓al_7s, ↓av_7s, ↓aq_7s, ↓an_l3, ↓bk_9010, ↓Sg_9008, ↓kp_9010_12, ↓kp_9010_64, ↓an_t hc0, ↓an_rv hc0, ↓bt1 hc1, ↓bt2 hc1]
    simp only [oW_map] at hs
    exact hs
  · replace hs := oW_f hs hc1
    obtain ⟨r1, hc2, hs⟩ := oW_bx hs
    by_cases hc3 : r1 = nI 0
    · replace hs := oW_t hs hc3
      simp (implicitDefEqProofs := false) only [↓hG, ↓hJf, ↓px_vc, ↓px_ex, ↓px_jp, ↓rq_gi_0, ↓rq_gi_S, ↓rq_gl_0, ↓rq_gl_S, ↓rq_gr_0, ↓rq_gr_S, ↓rq_s1_0, ↓rq_s1_1, ↓rq_s1_S, ↓rq_s2_0, ↓rq_s2_1, ↓rq_s2_S, ↓rq_nl_n, ↓rq_nl_i, ↓rq_nl_l, ↓rq_nl_r, ↓rq_i1_s, ↓rq_l1_s, ↓r1_s, ↓rq_q1_s, ↓rq_i2_s, ↓rq_l2_s, ↓rq_il_s, ↓rq_d0_s, ↓rq_d1_i, ↓rq_d1_r, ↓rq_d2_l, ↓rq_d2_ii, ↓rq_d2_ir, ↓px_pop, ↓px_sp, ↓px_rd, ↓px_rf, ↓pn_xf, ↓rq_pt_0, ↓rq_pt_1, ↓rq_pt_2, ↓rq_pt_3, ↓px_sw, ↓pn_SW, ↓px_ma, ↓reduceIte, Nat.reduceEqDiff, Nat.reduceAdd, Nat.reduceSub, ↓Option.toList_some, ↓Option.toList_none, ↓List.cons_append, ↓List.nil_append, ↓kI_s, ↓kJ_s, ↓kN_s, ↓kO_s, ↓kZ_s, ↓kE_s, ↓an_rfl, ↓bt1 n00, ↓bt2 n00, ↓bf1 n10, ↓bf2 n10, ↓an_sz0, ↓an_sz1, ↓an_sz2, ↓an_sz3, ↓an_sz4, ↓an_ri, ↓an_rb0, ↓an_rb1, ↓an_b0, ↓an_b1, true_and, ↓ai_0s, ↓al_0s, ↓av_0s, ↓aq_0s, ↓ai_1s, ↓al_1s, ↓av_1s, ↓aq_1s, ↓ai_2s, ↓al_2s, ↓av_2s, ↓aq_2s, ↓ai_3s, ↓al_3s, ↓av_3s, ↓aq_3s, ↓ai_4s, ↓al_4s, ↓av_4s, ↓aq_4s, ↓ai_5s, ↓al_5s, ↓av_5s, ↓aq_5s, ↓ai_6s, ↓al_6s, ↓av_6s, ↓aq_6s, ↓ai_7s, ↓al_7s, ↓av_7s, ↓aq_7s, ↓an_l3, ↓bk_9010, ↓Sg_9008, ↓kp_9010_12, ↓kp_9010_64, ↓an_t hc0, ↓an_rv hc0, ↓bf1 hc1, ↓bf2 hc1, ↓oW_e hc2, ↓bt1 hc3, ↓bt2 hc3]
      simp only [oW_map] at hs
      exact hs
    · replace hs := oW_f hs hc3
      simp (implicitDefEqProofs := false) only [↓hG, ↓hJf, ↓px_vc, ↓px_ex, ↓px_jp, ↓rq_gi_0, ↓rq_gi_S, ↓rq_gl_0, ↓rq_gl_S, ↓rq_gr_0, ↓rq_gr_S, ↓rq_s1_0, ↓rq_s1_1, ↓rq_s1_S, ↓rq_s2_0, ↓rq_s2_1, ↓rq_s2_S, ↓rq_nl_n, ↓rq_nl_i, ↓rq_nl_l, ↓rq_nl_r, ↓rq_i1_s, ↓rq_l1_s, ↓r1_s, ↓rq_q1_s, ↓rq_i2_s, ↓rq_l2_s, ↓rq_il_s, ↓rq_d0_s, ↓rq_d1_i, ↓rq_d1_r, ↓rq_d2_l, ↓rq_d2_ii, ↓rq_d2_ir, ↓px_pop, ↓px_sp, ↓px_rd, ↓px_rf, ↓pn_xf, ↓rq_pt_0, ↓rq_pt_1, ↓rq_pt_2, ↓rq_pt_3, ↓px_sw, ↓pn_SW, ↓px_ma, ↓reduceIte, Nat.reduceEqDiff, Nat.reduceAdd, Nat.reduceSub, ↓Option.toList_some, ↓Option.toList_none, ↓List.cons_append, ↓List.nil_append, ↓kI_s, ↓kJ_s, ↓kN_s, ↓kO_s, ↓kZ_s, ↓kE_s, ↓an_rfl, ↓bt1 n00, ↓bt2 n00, ↓bf1 n10, ↓bf2 n10, ↓an_sz0, ↓an_sz1, ↓an_sz2, ↓an_sz3, ↓an_sz4, ↓an_ri, ↓an_rb0, ↓an_rb1, ↓an_b0, ↓an_b1, true_and, ↓ai_0s, ↓al_0s, ↓av_0s, ↓aq_0s, ↓ai_1s, ↓al_1s, ↓av_1s, ↓aq_1s, ↓ai_2s, ↓al_2s, ↓av_2s, ↓aq_2s, ↓ai_3s, ↓al_3s, ↓av_3s, ↓aq_3s, ↓ai_4s, ↓al_4s, ↓av_4s, ↓aq_4s, ↓ai_5s, ↓al_5s, ↓av_5s, ↓aq_5s, ↓ai_6s, ↓al_6s, ↓av_6s, ↓aq_6s, ↓ai_7s, ↓al_7s, ↓av_7s, ↓aq_7s, ↓an_l3, ↓bk_9010, ↓Sg_9008, ↓kp_9010_12, ↓kp_9010_64, ↓an_t hc0, ↓an_rv hc0, ↓bf1 hc1, ↓bf2 hc1, ↓oW_e hc2, ↓bf1 hc3, ↓bf2 hc3]
      rw [oW_some] at hs
      exact hs
set_option maxHeartbeats 4000000 in
set_option maxRecDepth 100000 in
theorem rl_9010_4 {C : px_C} (hn : px_nd (px_tb C)) {h : Nat} (hh : 3 ≤ h) (hC : px_ok C pn_i9010 h) {k : Option px_V → px_M → Prop} {x0 : Nat} {x1 : Int32} {x2 : Int32} {σ : px_M} (hs : oW (f_9010_4 (px_tb C) σ x0 x1 x2) (fun r => k (some (.inl r)) σ)) : px_W C k 4 [some (.inr (.inr (some x0))), some (.inl x1), some (.inl x2)] [] σ := by
  refine px_runH (h - 1) ck_9010 [(9008, Sg_9008 (f_9008 (px_tb C))), (9009, Sg_9009 (f_9009 (px_tb C)))] [(12, kp_9010_12 (fun y0 y2 τ => τ = σ ∧ oW (f_9010_12 (px_tb C) τ y0 y2) (fun r => k (some (.inl r)) σ))), (42, kp_9010_42 (fun y0 y2 τ => τ = σ ∧ oW (f_9010_42 (px_tb C) τ y0 y2) (fun r => k (some (.inl r)) σ))), (64, kp_9010_64 (fun y2 τ => τ = σ ∧ oW (f_9010_64 (px_tb C) τ y2) (fun r => k (some (.inl r)) σ)))] 80 3 (some .int) rfl rfl hC (px_sp1 (mf_9008 hn (by omega)) (px_sp1 (mf_9009 hn (by omega)) px_nosp)) (by omega) (px_cut1 (kq_9010_12 (fun y0 y2 τ hq => by obtain ⟨rfl, hq⟩ := hq; exact rl_9010_12 hn (by omega) hC y2 hq)) (px_cut1 (kq_9010_42 (fun y0 y2 τ hq => by obtain ⟨rfl, hq⟩ := hq; exact rl_9010_42 hn (by omega) hC y2 hq)) (px_cut1 (kq_9010_64 (fun y2 τ hq => by obtain ⟨rfl, hq⟩ := hq; exact rl_9010_64 hn (by omega) hC  hq)) px_nocut))) (fun G Jf hG hJf => ?_)
  unfold f_9010_4 at hs
  obtain ⟨hc0, hs⟩ := oW_gx hs
  obtain ⟨r1, hc1, hs⟩ := oW_bx hs
  by_cases hc2 : r1 = nI 0
  · replace hs := oW_t hs hc2
    obtain ⟨r2, hc3, hs⟩ := oW_bx hs
    by_cases hc4 : r2 = nI 0
    · replace hs := oW_t hs hc4
      simp (implicitDefEqProofs := false) only [↓hG, ↓hJf, ↓px_vc, ↓px_ex, ↓px_jp, ↓rq_gi_0, ↓rq_gi_S, ↓rq_gl_0, ↓rq_gl_S, ↓rq_gr_0, ↓rq_gr_S, ↓rq_s1_0, ↓rq_s1_1, ↓rq_s1_S, ↓rq_s2_0, ↓rq_s2_1, ↓rq_s2_S, ↓rq_nl_n, ↓rq_nl_i, ↓rq_nl_l, ↓rq_nl_r, ↓rq_i1_s, ↓rq_l1_s, ↓r1_s, ↓rq_q1_s, ↓rq_i2_s, ↓rq_l2_s, ↓rq_il_s, ↓rq_d0_s, ↓rq_d1_i, ↓rq_d1_r, ↓rq_d2_l, ↓rq_d2_ii, ↓rq_d2_ir, ↓px_pop, ↓px_sp, ↓px_rd, ↓px_rf, ↓pn_xf, ↓rq_pt_0, ↓rq_pt_1, ↓rq_pt_2, ↓rq_pt_3, ↓px_sw, ↓pn_SW, ↓px_ma, ↓reduceIte, Nat.reduceEqDiff, Nat.reduceAdd, Nat.reduceSub, ↓Option.toList_some, ↓Option.toList_none, ↓List.cons_append, ↓List.nil_append, ↓kI_s, ↓kJ_s, ↓kN_s, ↓kO_s, ↓kZ_s, ↓kE_s, ↓an_rfl, ↓bt1 n00, ↓bt2 n00, ↓bf1 n10, ↓bf2 n10, ↓an_sz0, ↓an_sz1, ↓an_sz2, ↓an_sz3, ↓an_sz4, ↓an_ri, ↓an_rb0, ↓an_rb1, ↓an_b0, ↓an_b1, true_and, ↓ai_0s, ↓al_0s, ↓av_0s, ↓aq_0s, ↓ai_1s, ↓al_1s, ↓av_1s, ↓aq_1s, ↓ai_2s, ↓al_2s, ↓av_2s, ↓aq_2s, ↓ai_3s, ↓al_3s, ↓av_3s, ↓aq_3s, ↓ai_4s, ↓al_4s, ↓av_4s, ↓aq_4s, ↓ai_5s, ↓al_5s, ↓av_5s, ↓aq_5s, ↓ai_6s, ↓al_6s, ↓av_6s, ↓aq_6s, ↓ai_7s, ↓al_7s, ↓av_7s, ↓aq_7s, ↓an_l3, ↓bk_9010, ↓Sg_9008, ↓Sg_9009, ↓kp_9010_12, ↓kp_9010_42, ↓kp_9010_64, ↓an_t hc0, ↓an_rv hc0, ↓oW_e hc1, ↓bt1 hc2, ↓bt2 hc2, ↓oW_e hc3, ↓bt1 hc4, ↓bt2 hc4]
      exact hs
    · replace hs := oW_f hs hc4
      simp (implicitDefEqProofs := false) only [↓hG, ↓hJf, ↓px_vc, ↓px_ex, ↓px_jp, ↓rq_gi_0, ↓rq_gi_S, ↓rq_gl_0, ↓rq_gl_S, ↓rq_gr_0, ↓rq_gr_S, ↓rq_s1_0, ↓rq_s1_1, ↓rq_s1_S, ↓rq_s2_0, ↓rq_s2_1, ↓rq_s2_S, ↓rq_nl_n, ↓rq_nl_i, ↓rq_nl_l, ↓rq_nl_r, ↓rq_i1_s, ↓rq_l1_s, ↓r1_s, ↓rq_q1_s, ↓rq_i2_s, ↓rq_l2_s, ↓rq_il_s, ↓rq_d0_s, ↓rq_d1_i, ↓rq_d1_r, ↓rq_d2_l, ↓rq_d2_ii, ↓rq_d2_ir, ↓px_pop, ↓px_sp, ↓px_rd, ↓px_rf, ↓pn_xf, ↓rq_pt_0, ↓rq_pt_1, ↓rq_pt_2, ↓rq_pt_3, ↓px_sw, ↓pn_SW, ↓px_ma, ↓reduceIte, Nat.reduceEqDiff, Nat.reduceAdd, Nat.reduceSub, ↓Option.toList_some, ↓Option.toList_none, ↓List.cons_append, ↓List.nil_append, ↓kI_s, ↓kJ_s, ↓kN_s, ↓kO_s, ↓kZ_s, ↓kE_s, ↓an_rfl, ↓bt1 n00, ↓bt2 n00, ↓bf1 n10, ↓bf2 n10, ↓an_sz0, ↓an_sz1, ↓an_sz2, ↓an_sz3, ↓an_sz4, ↓an_ri, ↓an_rb0, ↓an_rb1, ↓an_b0, ↓an_b1, true_and, ↓ai_0s, ↓al_0s, ↓av_0s, ↓aq_0s, ↓ai_1s, ↓al_1s, ↓av_1s, ↓aq_1s, ↓ai_2s, ↓al_2s, ↓av_2s, ↓aq_2s, ↓ai_3s, ↓al_3s, ↓av_3s, ↓aq_3s, ↓ai_4s, ↓al_4s, ↓av_4s, ↓aq_4s, ↓ai_5s, ↓al_5s, ↓av_5s, ↓aq_5s, ↓ai_6s, ↓al_6s, ↓av_6s, ↓aq_6s, ↓ai_7s, ↓al_7s, ↓av_7s, ↓aq_7s, ↓an_l3, ↓bk_9010, ↓Sg_9008, ↓Sg_9009, ↓kp_9010_12, ↓kp_9010_42, ↓kp_9010_64, ↓an_t hc0, ↓an_rv hc0, ↓oW_e hc1, ↓bt1 hc2, ↓bt2 hc2, ↓oW_e hc3, ↓bf1 hc4, ↓bf2 hc4]
      exact hs
  · replace hs := oW_f hs hc2
    simp (implicitDefEqProofs := false) only [↓hG, ↓hJf, ↓px_vc, ↓px_ex, ↓px_jp, ↓rq_gi_0, ↓rq_gi_S, ↓rq_gl_0, ↓rq_gl_S, ↓rq_gr_0, ↓rq_gr_S, ↓rq_s1_0, ↓rq_s1_1, ↓rq_s1_S, ↓rq_s2_0, ↓rq_s2_1, ↓rq_s2_S, ↓rq_nl_n, ↓rq_nl_i, ↓rq_nl_l, ↓rq_nl_r, ↓rq_i1_s, ↓rq_l1_s, ↓r1_s, ↓rq_q1_s, ↓rq_i2_s, ↓rq_l2_s, ↓rq_il_s, ↓rq_d0_s, ↓rq_d1_i, ↓rq_d1_r, ↓rq_d2_l, ↓rq_d2_ii, ↓rq_d2_ir, ↓px_pop, ↓px_sp, ↓px_rd, ↓px_rf, ↓pn_xf, ↓rq_pt_0, ↓rq_pt_1, ↓rq_pt_2, ↓rq_pt_3, ↓px_sw, ↓pn_SW, ↓px_ma, ↓reduceIte, Nat.reduceEqDiff, Nat.reduceAdd, Nat.reduceSub, ↓Option.toList_some, ↓Option.toList_none, ↓List.cons_append, ↓List.nil_append, ↓kI_s, ↓kJ_s, ↓kN_s, ↓kO_s, ↓kZ_s, ↓kE_s, ↓an_rfl, ↓bt1 n00, ↓bt2 n00, ↓bf1 n10, ↓bf2 n10, ↓an_sz0, ↓an_sz1, ↓an_sz2, ↓an_sz3, ↓an_sz4, ↓an_ri, ↓an_rb0, ↓an_rb1, ↓an_b0, ↓an_b1, true_and, ↓ai_0s, ↓al_0s, ↓av_0s, ↓aq_0s, ↓ai_1s, ↓al_1s, ↓av_1s, ↓aq_1s, ↓ai_2s, ↓al_2s, ↓av_2s, ↓aq_2s, ↓ai_3s, ↓al_3s, ↓av_3s, ↓aq_3s, ↓ai_4s, ↓al_4s, ↓av_4s, ↓aq_4s, ↓ai_5s, ↓al_5s, ↓av_5s, ↓aq_5s, ↓ai_6s, ↓al_6s, ↓av_6s, ↓aq_6s, ↓ai_7s, ↓al_7s, ↓av_7s, ↓aq_7s, ↓an_l3, ↓bk_9010, ↓Sg_9008, ↓Sg_9009, ↓kp_9010_12, ↓kp_9010_42, ↓kp_9010_64, ↓an_t hc0, ↓an_rv hc0, ↓oW_e hc1, ↓bf1 hc2, ↓bf2 hc2]
    exact hs
set_option maxHeartbeats 4000000 in
set_option maxRecDepth 100000 in
theorem mf_9010 {tab : px_T} (hn : px_nd tab) {h : Nat} (hh : 3 ≤ h) : px_Ok tab pn_i9010 h (Sg_9010 (f_9010 tab)) := by
  refine px_mth hn (by decide +kernel) (fun av σ k hS => ?_) (fun C hT hC av σ k hS => ?_)
  · obtain ⟨x0, av0, e0, h0⟩ := av_0p hS
    obtain ⟨x1, av1, e1, h1⟩ := ai_1p h0
    obtain ⟨ez, hs⟩ := h1
    subst ez
    subst e1
    subst e0
    exact Nat.le_of_ble_eq_true rfl
  · obtain ⟨x0, av0, e0, h0⟩ := av_0p hS
    obtain ⟨x1, av1, e1, h1⟩ := ai_1p h0
    obtain ⟨ez, hs⟩ := h1
    subst ez
    subst e1
    subst e0
    subst hT
    show px_W C k 0 [some (.inr (.inr (some x0))), some (.inl x1), none] [] σ
    refine px_runH (h - 1) ck_9010 [] [(4, kp_9010_4 (fun y0 y1 y2 τ => τ = σ ∧ oW (f_9010_4 (px_tb C) τ y0 y1 y2) (fun r => k (some (.inl r)) σ)))] 80 3 (some .int) rfl rfl hC px_nosp (by omega) (px_cut1 (kq_9010_4 (fun y0 y1 y2 τ hq => by obtain ⟨rfl, hq⟩ := hq; exact rl_9010_4 hn (by omega) hC  hq)) px_nocut) (fun G Jf hG hJf => ?_)
    unfold f_9010 at hs
    simp (implicitDefEqProofs := false) only [↓hG, ↓hJf, ↓px_vc, ↓px_ex, ↓px_jp, ↓rq_gi_0, ↓rq_gi_S, ↓rq_gl_0, ↓rq_gl_S, ↓rq_gr_0, ↓rq_gr_S, ↓rq_s1_0, ↓rq_s1_1, ↓rq_s1_S, ↓rq_s2_0, ↓rq_s2_1, ↓rq_s2_S, ↓rq_nl_n, ↓rq_nl_i, ↓rq_nl_l, ↓rq_nl_r, ↓rq_i1_s, ↓rq_l1_s, ↓r1_s, ↓rq_q1_s, ↓rq_i2_s, ↓rq_l2_s, ↓rq_il_s, ↓rq_d0_s, ↓rq_d1_i, ↓rq_d1_r, ↓rq_d2_l, ↓rq_d2_ii, ↓rq_d2_ir, ↓px_pop, ↓px_sp, ↓px_rd, ↓px_rf, ↓pn_xf, ↓rq_pt_0, ↓rq_pt_1, ↓rq_pt_2, ↓rq_pt_3, ↓px_sw, ↓pn_SW, ↓px_ma, ↓reduceIte, Nat.reduceEqDiff, Nat.reduceAdd, Nat.reduceSub, ↓Option.toList_some, ↓Option.toList_none, ↓List.cons_append, ↓List.nil_append, ↓kI_s, ↓kJ_s, ↓kN_s, ↓kO_s, ↓kZ_s, ↓kE_s, ↓an_rfl, ↓bt1 n00, ↓bt2 n00, ↓bf1 n10, ↓bf2 n10, ↓an_sz0, ↓an_sz1, ↓an_sz2, ↓an_sz3, ↓an_sz4, ↓an_ri, ↓an_rb0, ↓an_rb1, ↓an_b0, ↓an_b1, true_and, ↓ai_0s, ↓al_0s, ↓av_0s, ↓aq_0s, ↓ai_1s, ↓al_1s, ↓av_1s, ↓aq_1s, ↓ai_2s, ↓al_2s, ↓av_2s, ↓aq_2s, ↓ai_3s, ↓al_3s, ↓av_3s, ↓aq_3s, ↓ai_4s, ↓al_4s, ↓av_4s, ↓aq_4s, ↓ai_5s, ↓al_5s, ↓av_5s, ↓aq_5s, ↓ai_6s, ↓al_6s, ↓av_6s, ↓aq_6s, ↓ai_7s, ↓al_7s, ↓av_7s, ↓aq_7s, ↓an_l3, ↓bk_9010, ↓kp_9010_4]
    exact hs
