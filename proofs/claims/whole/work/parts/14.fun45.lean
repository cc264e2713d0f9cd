/-! shallow functions, printed by wip/whole/decomp.py -/
def Sg_8006 (g : px_M → Nat → Nat → Int32 → Option (Int32 × px_M)) : px_S := fun av σ k => av_0 av (fun x0 av => av_1 av (fun x1 av => ai_2 av (fun x2 av => av = [] ∧ oW (g σ x0 x1 x2) (fun q => k (some (.inl q.1)) q.2))))
/-- NoThree$Painter.firstShade(LNoThree$Town;I)I -/
noncomputable def F_8006_28 (tab : px_T) (σ : px_M) (x0 : Nat) (x2 : Int32) (x3 : Int32) (x4 : Int32) : Option ((Int32) ⊕ (Int32 × px_M)) := if x3 ≤ x4 then (some (.inr (((-1), σ)))) else (gd (px_obj (px_lay tab x0) 8) ((((σ).2.2 x0 0)).bind fun n1 => oA (px_lay tab n1) fun t2 l3 => gd (t2 = 0 ∨ t2 = 11) (gd (vp_in x4 l3) (if ((px_av t2 σ n1 (x4).toNatClampNeg) &&& ((nI 1) <<< (x2 &&& 31))) = nI 0 then (some (.inl ((x4 + (nI 1))))) else (some (.inr ((x4, σ))))))))
noncomputable def f_8006_28 (tab : px_T) (σ : px_M) (x0 : Nat) (x2 : Int32) (x3 : Int32) (x4 : Int32) : Option (Int32 × px_M) := lpO (fun s : Int32 => F_8006_28 tab σ x0 x2 x3 s) x4
theorem f_8006_28_eq (tab : px_T) (σ : px_M) (x0 : Nat) (x2 : Int32) (x3 : Int32) (x4 : Int32) : f_8006_28 tab σ x0 x2 x3 x4 = (F_8006_28 tab σ x0 x2 x3 x4).bind (Sum.elim (fun s => f_8006_28 tab σ x0 x2 x3 s) some) := lpO_eq _ _
noncomputable def f_8006_18 (tab : px_T) (σ : px_M) (x0 : Nat) (x2 : Int32) (x3 : Int32) : Option (Int32 × px_M) := gd (px_obj (px_lay tab x0) 8) ((f_8007 tab 24 σ x0 ((nI 0)) x3).bind fun q1 => f_8006_28 tab q1.2 x0 x2 x3 ((nI 0)))
noncomputable def f_8006 (tab : px_T) (σ : px_M) (x0 : Nat) (x1 : Nat) (x2 : Int32) : Option (Int32 × px_M) := gd (px_obj (px_lay tab x1) 11) ((f_11004 tab σ x1).bind fun r1 => gd (px_obj (px_lay tab x0) 8) ((f_8002 tab σ x0 x1 r1).bind fun q2 => (((q2.2).2.2 x0 0)).bind fun n3 => (f_22000 tab q2.2 n3 ((nI 0))).bind fun q4 => f_8006_18 tab q4 x0 x2 q2.1))
def kp_8006_28 (Q : Nat → Int32 → Int32 → Int32 → px_M → Prop) : px_P := fun ls st τ => st = [] ∧ kN ls (fun x0 ls => kZ ls (fun ls => kI ls (fun x2 ls => kI ls (fun x3 ls => kI ls (fun x4 ls => kE ls (Q x0 x2 x3 x4 τ))))))
theorem kq_8006_28 {C : px_C} {k : Option px_V → px_M → Prop} {Q : Nat → Int32 → Int32 → Int32 → px_M → Prop} (H : ∀ (x0 : Nat) (x2 : Int32) (x3 : Int32) (x4 : Int32) (τ : px_M), Q x0 x2 x3 x4 τ → ∀ (z1 : Option px_V), px_W C k 28 [some (.inr (.inr (some x0))), z1, some (.inl x2), some (.inl x3), some (.inl x4)] [] τ) : ∀ ls st τ, kp_8006_28 Q ls st τ → px_W C k 28 ls st τ := by
  intro ls st τ hz
  obtain ⟨ez, h0⟩ := hz
  obtain ⟨x0, l0, e0, h1⟩ := kN_sp h0
  obtain ⟨z1, l1, e1, h2⟩ := kZ_sp h1
  obtain ⟨x2, l2, e2, h3⟩ := kI_sp h2
  obtain ⟨x3, l3, e3, h4⟩ := kI_sp h3
  obtain ⟨x4, l4, e4, h5⟩ := kI_sp h4
  obtain ⟨ey, hy⟩ := kE_sp h5
  subst ez
  subst ey
  subst e4
  subst e3
  subst e2
  subst e1
  subst e0
  exact H x0 x2 x3 x4 τ hy z1
def kp_8006_18 (Q : Nat → Int32 → Int32 → px_M → Prop) : px_P := fun ls st τ => st = [] ∧ kN ls (fun x0 ls => kZ ls (fun ls => kI ls (fun x2 ls => kI ls (fun x3 ls => kZ ls (fun ls => kE ls (Q x0 x2 x3 τ))))))
theorem kq_8006_18 {C : px_C} {k : Option px_V → px_M → Prop} {Q : Nat → Int32 → Int32 → px_M → Prop} (H : ∀ (x0 : Nat) (x2 : Int32) (x3 : Int32) (τ : px_M), Q x0 x2 x3 τ → ∀ (z1 : Option px_V) (z4 : Option px_V), px_W C k 18 [some (.inr (.inr (some x0))), z1, some (.inl x2), some (.inl x3), z4] [] τ) : ∀ ls st τ, kp_8006_18 Q ls st τ → px_W C k 18 ls st τ := by
  intro ls st τ hz
  obtain ⟨ez, h0⟩ := hz
  obtain ⟨x0, l0, e0, h1⟩ := kN_sp h0
  obtain ⟨z1, l1, e1, h2⟩ := kZ_sp h1
  obtain ⟨x2, l2, e2, h3⟩ := kI_sp h2
  obtain ⟨x3, l3, e3, h4⟩ := kI_sp h3
  obtain ⟨z4, l4, e4, h5⟩ := kZ_sp h4
  obtain ⟨ey, hy⟩ := kE_sp h5
  subst ez
  subst ey
  subst e4
  subst e3
  subst e2
  subst e1
  subst e0
  exact H x0 x2 x3 τ hy z1 z4
set_option maxHeartbeats 4000000 in
set_option maxRecDepth 100000 in
theorem rl_8006_28 {C : px_C} (hn : px_nd (px_tb C)) {h : Nat} (hh : 28 ≤ h) (hC : px_ok C pn_i8006 h) {k : Option px_V → px_M → Prop} {x0 : Nat} {x2 : Int32} {x3 : Int32} {σ : px_M} : ∀ s : Int32, oW (f_8006_28 (px_tb C) σ x0 x2 x3 s) (fun q => k (some (.inl q.1)) q.2) → (fun s : Int32 => ∀ (z1 : Option px_V), px_W C k 28 [some (.inr (.inr (some x0))), z1, some (.inl x2), some (.inl x3), some (.inl s)] [] σ) s := by
  intro s h0
  refine lpO_sound (P := (fun s : Int32 => ∀ (z1 : Option px_V), px_W C k 28 [some (.inr (.inr (some x0))), z1, some (.inl x2), some (.inl x3), some (.inl s)] [] σ)) (fun s hs => ?_) h0
  revert hs
  generalize s = x4
  intro hs
  intro z1
  refine px_runH (h - 1) ck_8006 [] [(28, kp_8006_28 (fun y0 y2 y3 y4 τ => y0 = x0 ∧ y2 = x2 ∧ y3 = x3 ∧ τ = σ ∧ (fun s : Int32 => ∀ (z1 : Option px_V), px_W C k 28 [some (.inr (.inr (some x0))), z1, some (.inl x2), some (.inl x3), some (.inl s)] [] σ) y4))] 80 5 (some .int) rfl rfl hC px_nosp (by omega) (px_cut1 (kq_8006_28 (fun y0 y2 y3 y4 τ hq => by obtain ⟨rfl, rfl, rfl, rfl, hq⟩ := hq; exact hq)) px_nocut) (fun G Jf hG hJf => ?_)
  replace hs : oW (F_8006_28 (px_tb C) σ x0 x2 x3 x4) _ := hs
  unfold F_8006_28 at hs
  by_cases hc0 : x3 ≤ x4
  · replace hs := oW_t hs hc0
    simp (implicitDefEqProofs := false) only [↓hG, ↓hJf, ↓px_vc, ↓px_ex, ↓px_jp, ↓rq_gi_0, ↓rq_gi_S, ↓rq_gl_0, ↓rq_gl_S, ↓rq_gr_0, ↓rq_gr_S, ↓rq_s1_0, ↓rq_s1_1, ↓rq_s1_S, ↓rq_s2_0, ↓rq_s2_1, ↓rq_s2_S, ↓rq_nl_n, ↓rq_nl_i, ↓rq_nl_l, ↓rq_nl_r, ↓rq_i1_s, ↓rq_l1_s, ↓r1_s, ↓rq_q1_s, ↓rq_i2_s, ↓rq_l2_s, ↓rq_il_s, ↓rq_d0_s, ↓rq_d1_i, ↓rq_d1_r, ↓rq_d2_l, ↓rq_d2_ii, ↓rq_d2_ir, ↓px_pop, ↓px_sp, ↓px_rd, ↓px_rf, ↓pn_xf, ↓rq_pt_0, ↓rq_pt_1, ↓rq_pt_2, ↓rq_pt_3, ↓px_sw, ↓pn_SW, ↓px_ma, ↓reduceIte, Nat.reduceEqDiff, Nat.reduceAdd, Nat.reduceSub, ↓Option.toList_some, ↓Option.toList_none, ↓List.cons_append, ↓List.nil_append, ↓kI_s, ↓kJ_s, ↓kN_s, ↓kO_s, ↓kZ_s, ↓kE_s, ↓an_rfl, ↓bt1 n00, ↓bt2 n00, ↓bf1 n10, ↓bf2 n10, ↓an_sz0, ↓an_sz1, ↓an_sz2, ↓an_sz3, ↓an_sz4, ↓an_ri, ↓an_rb0, ↓an_rb1, ↓an_b0, ↓an_b1, true_and, ↓ai_0s, ↓al_0s, ↓av_0s, ↓aq_0s, ↓ai_1s, ↓al_1s, ↓av_1s, ↓aq_1s, ↓ai_2s, ↓al_2s, ↓av_2s, ↓aq_2s, ↓ai_3s, ↓al_3s, ↓av_3s, ↓aq_3s, ↓ai_4s, ↓al_4s, ↓av_4s, ↓aq_4s, ↓ai_5s, ↓al_5s, ↓av_5s, ↓aq_5s, ↓ai_6s, ↓al_6s, ↓av_6s, ↓aq_6s, ↓ai_7s, ↓al_7s, ↓av_7s, ↓aq_7s, ↓an_l5, ↓bk_8006, ↓kp_8006_28, ↓bt1 hc0, ↓bt2 hc0]
    rw [oW_some] at hs
    exact hs
  · replace hs := oW_f hs hc0
    obtain ⟨hc1, hs⟩ := oW_gx hs
    obtain ⟨n1, hc2, hs⟩ := oW_bx hs
    obtain ⟨t2, l3, hc3, hs⟩ := oW_ax hs
    obtain ⟨hc4, hs⟩ := oW_gx hs
    obtain ⟨hc5, hs⟩ := oW_gx hs
    by_cases hc6 : ((px_av t2 σ n1 (x4).toNatClampNeg) &&& ((nI 1) <<< (x2 &&& 31))) = nI 0
    · replace hs := oW_t hs hc6
      simp (implicitDefEqProofs := false) only [↓hG, ↓hJf, ↓px_vc, ↓px_ex, ↓px_jp, ↓rq_gi_0, ↓rq_gi_S, ↓rq_gl_0, ↓rq_gl_S, ↓rq_gr_0, ↓rq_gr_S, ↓rq_s1_0, ↓rq_s1_1, ↓rq_s1_S, ↓rq_s2_0, ↓rq_s2_1, ↓rq_s2_S, ↓rq_nl_n, ↓rq_nl_i, ↓rq_nl_l, ↓rq_nl_r, ↓rq_i1_s, ↓rq_l1_s, ↓r1_s, ↓rq_q1_s, ↓rq_i2_s, ↓rq_l2_s, ↓rq_il_s, ↓rq_d0_s, ↓rq_d1_i, ↓rq_d1_r, ↓rq_d2_l, ↓rq_d2_ii, ↓rq_d2_ir, ↓px_pop, ↓px_sp, ↓px_rd, ↓px_rf, ↓pn_xf, ↓rq_pt_0, ↓rq_pt_1, ↓rq_pt_2, ↓rq_pt_3, ↓px_sw, ↓pn_SW, ↓px_ma, ↓reduceIte, Nat.reduceEqDiff, Nat.reduceAdd, Nat.reduceSub, ↓Option.toList_some, ↓Option.toList_none, ↓List.cons_append, ↓List.nil_append, ↓kI_s, ↓kJ_s, ↓kN_s, ↓kO_s, ↓kZ_s, ↓kE_s, ↓an_rfl, ↓bt1 n00, ↓bt2 n00, ↓bf1 n10, ↓bf2 n10, ↓an_sz0, ↓an_sz1, ↓an_sz2, ↓an_sz3, ↓an_sz4, ↓an_ri, ↓an_rb0, ↓an_rb1, ↓an_b0, ↓an_b1, true_and, ↓ai_0s, ↓al_0s, ↓av_0s, ↓aq_0s, ↓ai_1s, ↓al_1s, ↓av_1s, ↓aq_1s, ↓ai_2s, ↓al_2s, ↓av_2s, ↓aq_2s, ↓ai_3s, ↓al_3s, ↓av_3s, ↓aq_3s, ↓ai_4s, ↓al_4s, ↓av_4s, ↓aq_4s, ↓ai_5s, ↓al_5s, ↓av_5s, ↓aq_5s, ↓ai_6s, ↓al_6s, ↓av_6s, ↓aq_6s, ↓ai_7s, ↓al_7s, ↓av_7s, ↓aq_7s, ↓an_l5, ↓bk_8006, ↓kp_8006_28, ↓bf1 hc0, ↓bf2 hc0, ↓an_t hc1, ↓an_rv hc1, ↓r1_e hc2, ↓av_0e hc2, ↓av_1e hc2, ↓av_2e hc2, ↓av_3e hc2, ↓ar_e hc3, ↓an_t hc4, ↓an_t hc5, ↓bt1 hc6, ↓bt2 hc6]
      rw [oW_some] at hs
      exact hs
    · replace hs := oW_f hs hc6
      simp (implicitDefEqProofs := false) only [↓hG, ↓hJf, ↓px_vc, ↓px_ex, ↓px_jp, ↓rq_gi_0, ↓rq_gi_S, ↓rq_gl_0, ↓rq_gl_S, ↓rq_gr_0, ↓rq_gr_S, ↓rq_s1_0, ↓rq_s1_1, ↓rq_s1_S, ↓rq_s2_0, ↓rq_s2_1, ↓rq_s2_S, ↓rq_nl_n, ↓rq_nl_i, ↓rq_nl_l, ↓rq_nl_r, ↓rq_i1_s, ↓rq_l1_s, ↓r1_s, ↓rq_q1_s, ↓rq_i2_s, ↓rq_l2_s, ↓rq_il_s, ↓rq_d0_s, ↓rq_d1_i, ↓rq_d1_r, ↓rq_d2_l, ↓rq_d2_ii, ↓rq_d2_ir, ↓px_pop, ↓px_sp, ↓px_rd, ↓px_rf, ↓pn_xf, ↓rq_pt_0, ↓rq_pt_1, ↓rq_pt_2, ↓rq_pt_3, ↓px_sw, ↓pn_SW, ↓px_ma, ↓reduceIte, Nat.reduceEqDiff, Nat.reduceAdd, Nat.reduceSub, ↓Option.toList_some, ↓Option.toList_none, ↓List.cons_append, ↓List.nil_append, ↓kI_s, ↓kJ_s, ↓kN_s, ↓kO_s, ↓kZ_s, ↓kE_s, ↓an_rfl, ↓bt1 n00, ↓bt2 n00, ↓bf1 n10, ↓bf2 n10, ↓an_sz0, ↓an_sz1, ↓an_sz2, ↓an_sz3, ↓an_sz4, ↓an_ri, ↓an_rb0, ↓an_rb1, ↓an_b0, ↓an_b1, true_and, ↓ai_0s, ↓al_0s, ↓av_0s, ↓aq_0s, ↓ai_1s, ↓al_1s, ↓av_1s, ↓aq_1s, ↓ai_2s, ↓al_2s, ↓av_2s, ↓aq_2s, ↓ai_3s, ↓al_3s, ↓av_3s, ↓aq_3s, ↓ai_4s, ↓al_4s, ↓av_4s, ↓aq_4s, ↓ai_5s, ↓al_5s, ↓av_5s, ↓aq_5s, ↓ai_6s, ↓al_6s, ↓av_6s, ↓aq_6s, ↓ai_7s, ↓al_7s, ↓av_7s, ↓aq_7s, ↓an_l5, ↓bk_8006, ↓kp_8006_28, ↓bf1 hc0, ↓bf2 hc0, ↓an_t hc1, ↓an_rv hc1, ↓r1_e hc2, ↓av_0e hc2, ↓av_1e hc2, ↓av_2e hc2, ↓av_3e hc2, ↓ar_e hc3, ↓an_t hc4, ↓an_t hc5, ↓bf1 hc6, ↓bf2 hc6]
      rw [oW_some] at hs
      exact hs
set_option maxHeartbeats 4000000 in
set_option maxRecDepth 100000 in
theorem rl_8006_18 {C : px_C} (hn : px_nd (px_tb C)) {h : Nat} (hh : 28 ≤ h) (hC : px_ok C pn_i8006 h) {k : Option px_V → px_M → Prop} {x0 : Nat} {x2 : Int32} {x3 : Int32} {σ : px_M} (hs : oW (f_8006_18 (px_tb C) σ x0 x2 x3) (fun q => k (some (.inl q.1)) q.2)) : ∀ (z1 : Option px_V) (z4 : Option px_V), px_W C k 18 [some (.inr (.inr (some x0))), z1, some (.inl x2), some (.inl x3), z4] [] σ := by
  intro z1 z4
  refine px_runH (h - 1) ck_8006 [(8007, Sg_8007 (f_8007 (px_tb C) 24))] [(28, kp_8006_28 (fun y0 y2 y3 y4 τ => oW (f_8006_28 (px_tb C) τ y0 y2 y3 y4) (fun q => k (some (.inl q.1)) q.2)))] 80 5 (some .int) rfl rfl hC (px_sp1 (mf_8007 hn (by omega)) px_nosp) (by omega) (px_cut1 (kq_8006_28 (fun y0 y2 y3 y4 τ hq => by exact rl_8006_28 hn (by omega) hC y4 hq)) px_nocut) (fun G Jf hG hJf => ?_)
  unfold f_8006_18 at hs
  obtain ⟨hc0, hs⟩ := oW_gx hs
  obtain ⟨q1, hc1, hs⟩ := oW_bx hs
  simp (implicitDefEqProofs := false) only [↓hG, ↓hJf, ↓px_vc, ↓px_ex, ↓px_jp, ↓rq_gi_0, ↓rq_gi_S, ↓rq_gl_0, ↓rq_gl_S, ↓rq_gr_0, ↓rq_gr_S, ↓rq_s1_0, ↓rq_s1_1, ↓rq_s1_S, ↓rq_s2_0, ↓rq_s2_1, ↓rq_s2_S, ↓rq_nl_n, ↓rq_nl_i, ↓rq_nl_l, ↓rq_nl_r, ↓rq_i1_s, ↓rq_l1_s, ↓r1_s, ↓rq_q1_s, ↓rq_i2_s, ↓rq_l2_s, ↓rq_il_s, ↓rq_d0_s, ↓rq_d1_i, ↓rq_d1_r, ↓rq_d2_l, ↓rq_d2_ii, ↓rq_d2_ir, ↓px_pop, ↓px_sp, ↓px_rd, ↓px_rf, ↓pn_xf, ↓rq_pt_0, ↓rq_pt_1, ↓rq_pt_2, ↓rq_pt_3, ↓px_sw, ↓pn_SW, ↓px_ma, ↓reduceIte, Nat.reduceEqDiff, Nat.reduceAdd, Nat.reduceSub, ↓Option.toList_some, ↓Option.toList_none, ↓List.cons_append, ↓List.nil_append, ↓kI_s, ↓kJ_s, ↓kN_s, ↓kO_s, ↓kZ_s, ↓kE_s, ↓an_rfl, ↓bt1 n00, ↓bt2 n00, ↓bf1 n10, ↓bf2 n10, ↓an_sz0, ↓an_sz1, ↓an_sz2, ↓an_sz3, ↓an_sz4, ↓an_ri, ↓an_rb0, ↓an_rb1, ↓an_b0, ↓an_b1, true_and, ↓ai_0s, ↓al_0s, ↓av_0s, ↓aq_0s, ↓ai_1s, ↓al_1s, ↓av_1s, ↓aq_1s, ↓ai_2s, ↓al_2s, ↓av_2s, ↓aq_2s, ↓ai_3s, ↓al_3s, ↓av_3s, ↓aq_3s, ↓ai_4s, ↓al_4s, ↓av_4s, ↓aq_4s, ↓ai_5s, ↓al_5s, ↓av_5s, ↓aq_5s, ↓ai_6s, ↓al_6s, ↓av_6s, ↓aq_6s, ↓ai_7s, ↓al_7s, ↓av_7s, ↓aq_7s, ↓an_l5, ↓bk_8006, ↓Sg_8007, ↓kp_8006_28, ↓an_t hc0, ↓an_rv hc0, ↓oW_e hc1]
  exact hs
set_option maxHeartbeats 4000000 in
set_option maxRecDepth 100000 in
theorem mf_8006 {tab : px_T} (hn : px_nd tab) {h : Nat} (hh : 28 ≤ h) : px_Ok tab pn_i8006 h (Sg_8006 (f_8006 tab)) := by
  refine px_mth hn (by decide +kernel) (fun av σ k hS => ?_) (fun C hT hC av σ k hS => ?_)
  · obtain ⟨x0, av0, e0, h0⟩ := av_0p hS
    obtain ⟨x1, av1, e1, h1⟩ := av_1p h0
    obtain ⟨x2, av2, e2, h2⟩ := ai_2p h1
    obtain ⟨ez, hs⟩ := h2
    subst ez
    subst e2
    subst e1
    subst e0
    exact Nat.le_of_ble_eq_true rfl
  · obtain ⟨x0, av0, e0, h0⟩ := av_0p hS
    obtain ⟨x1, av1, e1, h1⟩ := av_1p h0
    obtain ⟨x2, av2, e2, h2⟩ := ai_2p h1
    obtain ⟨ez, hs⟩ := h2
    subst ez
    subst e2
    subst e1
    subst e0
    subst hT
    show px_W C k 0 [some (.inr (.inr (some x0))), some (.inr (.inr (some x1))), some (.inl x2), none, none] [] σ
    refine px_runH (h - 1) ck_8006 [(8002, Sg_8002 (f_8002 (px_tb C))), (11004, Sg_11004 (f_11004 (px_tb C))), (22000, Sg_22000 (f_22000 (px_tb C)))] [(18, kp_8006_18 (fun y0 y2 y3 τ => oW (f_8006_18 (px_tb C) τ y0 y2 y3) (fun q => k (some (.inl q.1)) q.2)))] 80 5 (some .int) rfl rfl hC (px_sp1 (mf_8002 hn (by omega)) (px_sp1 (mf_11004 hn (by omega)) (px_sp1 (mf_22000 hn (by omega)) px_nosp))) (by omega) (px_cut1 (kq_8006_18 (fun y0 y2 y3 τ hq => by exact rl_8006_18 hn (by omega) hC  hq)) px_nocut) (fun G Jf hG hJf => ?_)
    unfold f_8006 at hs
    obtain ⟨hc0, hs⟩ := oW_gx hs
    obtain ⟨r1, hc1, hs⟩ := oW_bx hs
    obtain ⟨hc2, hs⟩ := oW_gx hs
    obtain ⟨q2, hc3, hs⟩ := oW_bx hs
    obtain ⟨n3, hc4, hs⟩ := oW_bx hs
    obtain ⟨q4, hc5, hs⟩ := oW_bx hs
    simp (implicitDefEqProofs := false) only [↓hG, ↓hJf, ↓px_vc, ↓px_ex, ↓px_jp, ↓rq_gi_0, ↓rq_gi_S, ↓rq_gl_0, ↓rq_gl_S, ↓rq_gr_0, ↓rq_gr_S, ↓rq_s1_0, ↓rq_s1_1, ↓rq_s1_S, ↓rq_s2_0, ↓rq_s2_1, ↓rq_s2_S, ↓rq_nl_n, ↓rq_nl_i, ↓rq_nl_l, ↓rq_nl_r, ↓rq_i1_s, ↓rq_l1_s, ↓r1_s, ↓rq_q1_s, ↓rq_i2_s, ↓rq_l2_s, ↓rq_il_s, ↓rq_d0_s, ↓rq_d1_i, ↓rq_d1_r, ↓rq_d2_l, ↓rq_d2_ii, ↓rq_d2_ir, ↓px_pop, ↓px_sp, ↓px_rd, ↓px_rf, ↓pn_xf, ↓rq_pt_0, ↓rq_pt_1, ↓rq_pt_2, ↓rq_pt_3, ↓px_sw, ↓pn_SW, ↓px_ma, ↓reduceIte, Nat.reduceEqDiff, Nat.reduceAdd, Nat.reduceSub, ↓Option.toList_some, ↓Option.toList_none, ↓List.cons_append, ↓List.nil_append, ↓kI_s, ↓kJ_s, ↓kN_s, ↓kO_s, ↓kZ_s, ↓kE_s, ↓an_rfl, ↓bt1 n00, ↓bt2 n00, ↓bf1 n10, ↓bf2 n10, ↓an_sz0, ↓an_sz1, ↓an_sz2, ↓an_sz3, ↓an_sz4, ↓an_ri, ↓an_rb0, ↓an_rb1, ↓an_b0, ↓an_b1, true_and, ↓ai_0s, ↓al_0s, ↓av_0s, ↓aq_0s, ↓ai_1s, ↓al_1s, ↓av_1s, ↓aq_1s, ↓ai_2s, ↓al_2s, ↓av_2s, ↓aq_2s, ↓ai_3s, ↓al_3s, ↓av_3s, ↓aq_3s, ↓ai_4s, ↓al_4s, ↓av_4s, ↓aq_4s, ↓ai_5s, ↓al_5s, ↓av_5s, ↓aq_5s, ↓ai_6s, ↓al_6s, ↓av_6s, ↓aq_6s, ↓ai_7s, ↓al_7s, ↓av_7s, ↓aq_7s, ↓an_l5, ↓bk_8006, ↓Sg_8002, ↓Sg_11004, ↓Sg_22000, ↓kp_8006_18, ↓an_t hc0, ↓an_rv hc0, ↓oW_e hc1, ↓an_t hc2, ↓an_rv hc2, ↓oW_e hc3, ↓r1_e hc4, ↓av_0e hc4, ↓av_1e hc4, ↓av_2e hc4, ↓av_3e hc4, ↓oW_e hc5]
    exact hs
def Sg_8010 (g : px_M → Nat → Int32 → Int32 → Option (Int32)) : px_S := fun av σ k => av_0 av (fun x0 av => ai_1 av (fun x1 av => ai_2 av (fun x2 av => av = [] ∧ oW (g σ x0 x1 x2) (fun r => k (some (.inl r)) σ))))
/-- NoThree$Painter.sketched(II)I -/
noncomputable def f_8010_7 (tab : px_T) (σ : px_M) (x0 : Nat) (x2 : Int32) (x3 : Int32) : Option (Int32) := if x2 < nI 0 then (some ((nI 0))) else (if x3 < nI 0 then (some ((nI 0))) else (gd (px_obj (px_lay tab x0) 8) ((((σ).2.2 x0 1)).bind fun n1 => oA (px_lay tab n1) fun t2 l3 => gd (t2 < 12) (if (nI l3) ≤ x3 then (some ((nI 0))) else (gd (t2 = 0 ∨ t2 = 11) (gd (vp_in x3 l3) (some ((px_av t2 σ n1 (x3).toNatClampNeg)))))))))
noncomputable def f_8010 (tab : px_T) (σ : px_M) (x0 : Nat) (x1 : Int32) (x2 : Int32) : Option (Int32) := f_8010_7 tab σ x0 x2 (((x1 * (nI 11)) + x2))
def kp_8010_7 (Q : Nat → Int32 → Int32 → px_M → Prop) : px_P := fun ls st τ => st = [] ∧ kN ls (fun x0 ls => kZ ls (fun ls => kI ls (fun x2 ls => kI ls (fun x3 ls => kE ls (Q x0 x2 x3 τ)))))
theorem kq_8010_7 {C : px_C} {k : Option px_V → px_M → Prop} {Q : Nat → Int32 → Int32 → px_M → Prop} (H : ∀ (x0 : Nat) (x2 : Int32) (x3 : Int32) (τ : px_M), Q x0 x2 x3 τ → ∀ (z1 : Option px_V), px_W C k 7 [some (.inr (.inr (some x0))), z1, some (.inl x2), some (.inl x3)] [] τ) : ∀ ls st τ, kp_8010_7 Q ls st τ → px_W C k 7 ls st τ := by
  intro ls st τ hz
  obtain ⟨ez, h0⟩ := hz
  obtain ⟨x0, l0, e0, h1⟩ := kN_sp h0
  obtain ⟨z1, l1, e1, h2⟩ := kZ_sp h1
  obtain ⟨x2, l2, e2, h3⟩ := kI_sp h2
  obtain ⟨x3, l3, e3, h4⟩ := kI_sp h3
  obtain ⟨ey, hy⟩ := kE_sp h4
  subst ez
  subst ey
  subst e3
  subst e2
  subst e1
  subst e0
  exact H x0 x2 x3 τ hy z1
set_option maxHeartbeats 4000000 in
set_option maxRecDepth 100000 in
theorem rl_8010_7 {C : px_C} (hn : px_nd (px_tb C)) {h : Nat} (hh : 1 ≤ h) (hC : px_ok C pn_i8010 h) {k : Option px_V → px_M → Prop} {x0 : Nat} {x2 : Int32} {x3 : Int32} {σ : px_M} (hs : oW (f_8010_7 (px_tb C) σ x0 x2 x3) (fun r => k (some (.inl r)) σ)) : ∀ (z1 : Option px_V), px_W C k 7 [some (.inr (.inr (some x0))), z1, some (.inl x2), some (.inl x3)] [] σ := by
  intro z1
  refine px_runH (h - 1) ck_8010 [] [] 80 4 (some .int) rfl rfl hC px_nosp (by omega) px_nocut (fun G Jf hG hJf => ?_)
  unfold f_8010_7 at hs
  by_cases hc0 : x2 < nI 0
  · replace hs := oW_t hs hc0
    simp (implicitDefEqProofs := false) only [↓hG, ↓hJf, ↓px_vc, ↓px_ex, ↓px_jp, ↓rq_gi_0, ↓rq_gi_S, ↓rq_gl_0, ↓rq_gl_S, ↓rq_gr_0, ↓rq_gr_S, ↓rq_s1_0, ↓rq_s1_1, ↓rq_s1_S, ↓rq_s2_0, ↓rq_s2_1, ↓rq_s2_S, ↓rq_nl_n, ↓rq_nl_i, ↓rq_nl_l, ↓rq_nl_r, ↓rq_i1_s, ↓rq_l1_s, ↓r1_s, ↓rq_q1_s, ↓rq_i2_s, ↓rq_l2_s, ↓rq_il_s, ↓rq_d0_s, ↓rq_d1_i, ↓rq_d1_r, ↓rq_d2_l, ↓rq_d2_ii, ↓rq_d2_ir, ↓px_pop, ↓px_sp, ↓px_rd, ↓px_rf, ↓pn_xf, ↓rq_pt_0, ↓rq_pt_1, ↓rq_pt_2, ↓rq_pt_3, ↓px_sw, ↓pn_SW, ↓px_ma, ↓reduceIte, Nat.reduceEqDiff, Nat.reduceAdd, Nat.reduceSub, ↓Option.toList_some, ↓Option.toList_none, ↓List.cons_append, ↓List.nil_append, ↓kI_s, ↓kJ_s, ↓kN_s, ↓kO_s, ↓kZ_s, ↓kE_s, ↓an_rfl, ↓bt1 n00, ↓bt2 n00, ↓bf1 n10, ↓bf2 n10, ↓an_sz0, ↓an_sz1, ↓an_sz2, ↓an_sz3, ↓an_sz4, ↓an_ri, ↓an_rb0, ↓an_rb1, ↓an_b0, ↓an_b1, true_and, ↓ai_0s, ↓al_0s, ↓av_0s, ↓aq_0s, ↓ai_1s, ↓al_1s, ↓av_1s, ↓aq_1s, ↓ai_2s, ↓al_2s, ↓av_2s, ↓aq_2s, ↓ai_3s, ↓al_3s, ↓av_3s, ↓aq_3s, ↓ai_4s, ↓al_4s, ↓av_4s, ↓aq_4s, ↓ai_5s, ↓al_5s, ↓av_5s, ↓aq_5s, ↓ai_6s, ↓al_6s, ↓av_6s, ↓aq_6s, ↓ai_7s, ↓al_7s, ↓av_7s, ↓aq_7s, ↓an_l4, ↓bk_8010, ↓bt1 hc0, ↓bt2 hc0]
    rw [oW_some] at hs
    exact hs
  · replace hs := oW_f hs hc0
    by_cases hc1 : x3 < nI 0
    · replace hs := oW_t hs hc1
      simp (implicitDefEqProofs := false) only [↓hG, ↓hJf, ↓px_vc, ↓px_ex, ↓px_jp, ↓rq_gi_0, ↓rq_gi_S, ↓rq_gl_0, ↓rq_gl_S, ↓rq_gr_0, ↓rq_gr_S, ↓rq_s1_0, ↓rq_s1_1, ↓rq_s1_S, ↓rq_s2_0, ↓rq_s2_1, ↓rq_s2_S, ↓rq_nl_n, ↓rq_nl_i, ↓rq_nl_l, ↓rq_nl_r, ↓rq_i1_s, ↓rq_l1_s, ↓r1_s, ↓rq_q1_s, ↓rq_i2_s, ↓rq_l2_s, ↓rq_il_s, ↓rq_d0_s, ↓rq_d1_i, ↓rq_d1_r, ↓rq_d2_l, ↓rq_d2_ii, ↓rq_d2_ir, ↓px_pop, ↓px_sp, ↓px_rd, ↓px_rf, ↓pn_xf, ↓rq_pt_0, ↓rq_pt_1, ↓rq_pt_2, ↓rq_pt_3, ↓px_sw, ↓pn_SW, ↓px_ma, ↓reduceIte, Nat.reduceEqDiff, Nat.reduceAdd, Nat.reduceSub, ↓Option.toList_some, ↓Option.toList_none, ↓List.cons_append, ↓List.nil_append, ↓kI_s, ↓kJ_s, ↓kN_s, ↓kO_s, ↓kZ_s, ↓kE_s, ↓an_rfl, ↓bt1 n00, ↓bt2 n00, ↓bf1 n10, ↓bf2 n10, ↓an_sz0, ↓an_sz1, ↓an_sz2, ↓an_sz3, ↓an_sz4, ↓an_ri, ↓an_rb0, ↓an_rb1, ↓an_b0, ↓an_b1, true_and, ↓ai_0s, ↓al_0s, ↓av_0s, ↓aq_0s, ↓ai_1s, ↓al_1s, ↓av_1s, ↓aq_1s, ↓ai_2s, ↓al_2s, ↓av_2s, ↓aq_2s, ↓ai_3s, ↓al_3s, ↓av_3s, ↓aq_3s, ↓ai_4s, ↓al_4s, ↓av_4s, ↓aq_4s, ↓ai_5s, ↓al_5s, ↓av_5s, ↓aq_5s, ↓ai_6s, ↓al_6s, ↓av_6s, ↓aq_6s, ↓ai_7s, ↓al_7s, ↓av_7s, ↓aq_7s, ↓an_l4, ↓bk_8010, ↓bf1 hc0, ↓bf2 hc0, ↓bt1 hc1, ↓bt2 hc1]
      rw [oW_some] at hs
      exact hs
    · replace hs := oW_f hs hc1
      obtain ⟨hc2, hs⟩ := oW_gx hs
      obtain ⟨n1, hc3, hs⟩ := oW_bx hs
      obtain ⟨t2, l3, hc4, hs⟩ := oW_ax hs
      obtain ⟨hc5, hs⟩ := oW_gx hs
      by_cases hc6 : (nI l3) ≤ x3
      · replace hs := oW_t hs hc6
        simp (implicitDefEqProofs := false) only [↓hG, ↓hJf, ↓px_vc, ↓px_ex, ↓px_jp, ↓rq_gi_0, ↓rq_gi_S, ↓rq_gl_0, ↓rq_gl_S, ↓rq_gr_0, ↓rq_gr_S, ↓rq_s1_0, ↓rq_s1_1, ↓rq_s1_S, ↓rq_s2_0, ↓rq_s2_1, ↓rq_s2_S, ↓rq_nl_n, ↓rq_nl_i, ↓rq_nl_l, ↓rq_nl_r, ↓rq_i1_s, ↓rq_l1_s, ↓r1_s, ↓rq_q1_s, ↓rq_i2_s, ↓rq_l2_s, ↓rq_il_s, ↓rq_d0_s, ↓rq_d1_i, ↓rq_d1_r, ↓rq_d2_l, ↓rq_d2_ii, ↓rq_d2_ir, ↓px_pop, ↓px_sp, ↓px_rd, ↓px_rf, ↓pn_xf, ↓rq_pt_0, ↓rq_pt_1, ↓rq_pt_2, ↓rq_pt_3, ↓px_sw, ↓pn_SW, ↓px_ma, ↓reduceIte, Nat.reduceEqDiff, Nat.reduceAdd, Nat.reduceSub, ↓Option.toList_some, ↓Option.toList_none, ↓List.cons_append, ↓List.nil_append, ↓kI_s, ↓kJ_s, ↓kN_s, ↓kO_s, ↓kZ_s, ↓kE_s, ↓an_rfl, ↓bt1 n00, ↓bt2 n00, ↓bf1 n10, ↓bf2 n10, ↓an_sz0, ↓an_sz1, ↓an_sz2, ↓an_sz3, ↓an_sz4, ↓an_ri, ↓an_rb0, ↓an_rb1, ↓an_b0, ↓an_b1, true_and, ↓ai_0s, ↓al_0s, ↓av_0s, ↓aq_0s, ↓ai_1s, ↓al_1s, ↓av_1s, ↓aq_1s, ↓ai_2s, ↓al_2s, ↓av_2s, ↓aq_2s, ↓ai_3s, ↓al_3s, ↓av_3s, ↓aq_3s, ↓ai_4s, ↓al_4s, ↓av_4s, ↓aq_4s, ↓ai_5s, ↓al_5s, ↓av_5s, ↓aq_5s, ↓ai_6s, ↓al_6s, ↓av_6s, ↓aq_6s, ↓ai_7s, ↓al_7s, ↓av_7s, ↓aq_7s, ↓an_l4, ↓bk_8010, ↓bf1 hc0, ↓bf2 hc0, ↓bf1 hc1, ↓bf2 hc1, ↓an_t hc2, ↓an_rv hc2, ↓r1_e hc3, ↓av_0e hc3, ↓av_1e hc3, ↓av_2e hc3, ↓av_3e hc3, ↓ar_e hc4, ↓an_t hc5, ↓bt1 hc6, ↓bt2 hc6]
        rw [oW_some] at hs
        exact hs
      · replace hs := oW_f hs hc6
        obtain ⟨hc7, hs⟩ := oW_gx hs
        obtain ⟨hc8, hs⟩ := oW_gx hs
        simp (implicitDefEqProofs := false) only [↓hG, ↓hJf, ↓px_vc, ↓px_ex, ↓px_jp, ↓rq_gi_0, ↓rq_gi_S, ↓rq_gl_0, ↓rq_gl_S, ↓rq_gr_0, ↓rq_gr_S, ↓rq_s1_0, ↓rq_s1_1, ↓rq_s1_S, ↓rq_s2_0, ↓rq_s2_1, ↓rq_s2_S, ↓rq_nl_n, ↓rq_nl_i, ↓rq_nl_l, ↓rq_nl_r, ↓rq_i1_s, ↓rq_l1_s, ↓r1_s, ↓rq_q1_s, ↓rq_i2_s, ↓rq_l2_s, ↓rq_il_s, ↓rq_d0_s, ↓rq_d1_i, ↓rq_d1_r, ↓rq_d2_l, ↓rq_d2_ii, ↓rq_d2_ir, ↓px_pop, ↓px_sp, ↓px_rd, ↓px_rf, ↓pn_xf, ↓rq_pt_0, ↓rq_pt_1, ↓rq_pt_2, ↓rq_pt_3, ↓px_sw, ↓pn_SW, ↓px_ma, ↓reduceIte, Nat.reduceEqDiff, Nat.reduceAdd, Nat.reduceSub, ↓Option.toList_some, ↓Option.toList_none, ↓List.cons_append, ↓List.nil_append, ↓kI_s, ↓kJ_s, ↓kN_s, ↓kO_s, ↓kZ_s, ↓kE_s, ↓an_rfl, ↓bt1 n00, ↓bt2 n00, ↓bf1 n10, ↓bf2 n10, ↓an_sz0, ↓an_sz1, ↓an_sz2, ↓an_sz3, ↓an_sz4, ↓an_ri, ↓an_rb0, ↓an_rb1, ↓an_b0, ↓an_b1, true_and, ↓ai_0s, ↓al_0s, ↓av_0s, ↓aq_0s, ↓ai_1s, ↓al_1s, ↓av_1s, ↓aq_1s, ↓ai_2s, ↓al_2s, ↓av_2s, ↓aq_2s, ↓ai_3s, ↓al_3s, ↓av_3s, ↓aq_3s, ↓ai_4s, ↓al_4s, ↓av_4s, ↓aq_4s, ↓ai_5s, ↓al_5s, ↓av_5s, ↓aq_5s, ↓ai_6s, ↓al_6s, ↓av_6s, ↓aq_6s, ↓ai_7s, ↓al_7s, ↓av_7s, ↓aq_7s, ↓an_l4, ↓bk_8010, ↓bf1 hc0, ↓bf2 hc0, ↓bf1 hc1, ↓bf2 hc1, ↓an_t hc2, ↓an_rv hc2, ↓r1_e hc3, ↓av_0e hc3, ↓av_1e hc3, ↓av_2e hc3, ↓av_3e hc3, ↓ar_e hc4, ↓an_t hc5, ↓bf1 hc6, ↓bf2 hc6, ↓an_t hc7, ↓an_t hc8]
        rw [oW_some] at hs
        exact hs
set_option maxHeartbeats 4000000 in
set_option maxRecDepth 100000 in
theorem mf_8010 {tab : px_T} (hn : px_nd tab) {h : Nat} (hh : 1 ≤ h) : px_Ok tab pn_i8010 h (Sg_8010 (f_8010 tab)) := by
  refine px_mth hn (by decide +kernel) (fun av σ k hS => ?_) (fun C hT hC av σ k hS => ?_)
  · obtain ⟨x0, av0, e0, h0⟩ := av_0p hS
    obtain ⟨x1, av1, e1, h1⟩ := ai_1p h0
    obtain ⟨x2, av2, e2, h2⟩ := ai_2p h1
    obtain ⟨ez, hs⟩ := h2
    subst ez
    subst e2
    subst e1
    subst e0
    exact Nat.le_of_ble_eq_true rfl
  · obtain ⟨x0, av0, e0, h0⟩ := av_0p hS
    obtain ⟨x1, av1, e1, h1⟩ := ai_1p h0
    obtain ⟨x2, av2, e2, h2⟩ := ai_2p h1
    obtain ⟨ez, hs⟩ := h2
    subst ez
    subst e2
    subst e1
    subst e0
    subst hT
    show px_W C k 0 [some (.inr (.inr (some x0))), some (.inl x1), some (.inl x2), none] [] σ
    refine px_runH (h - 1) ck_8010 [] [(7, kp_8010_7 (fun y0 y2 y3 τ => τ = σ ∧ oW (f_8010_7 (px_tb C) τ y0 y2 y3) (fun r => k (some (.inl r)) σ)))] 80 4 (some .int) rfl rfl hC px_nosp (by omega) (px_cut1 (kq_8010_7 (fun y0 y2 y3 τ hq => by obtain ⟨rfl, hq⟩ := hq; exact rl_8010_7 hn (by omega) hC  hq)) px_nocut) (fun G Jf hG hJf => ?_)
    unfold f_8010 at hs
    simp (implicitDefEqProofs := false) only [↓hG, ↓hJf, ↓px_vc, ↓px_ex, ↓px_jp, ↓rq_gi_0, ↓rq_gi_S, ↓rq_gl_0, ↓rq_gl_S, ↓rq_gr_0, ↓rq_gr_S, ↓rq_s1_0, ↓rq_s1_1, ↓rq_s1_S, ↓rq_s2_0, ↓rq_s2_1, ↓rq_s2_S, ↓rq_nl_n, ↓rq_nl_i, ↓rq_nl_l, ↓rq_nl_r, ↓rq_i1_s, ↓rq_l1_s, ↓r1_s, ↓rq_q1_s, ↓rq_i2_s, ↓rq_l2_s, ↓rq_il_s, ↓rq_d0_s, ↓rq_d1_i, ↓rq_d1_r, ↓rq_d2_l, ↓rq_d2_ii, ↓rq_d2_ir, ↓px_pop, ↓px_sp, ↓px_rd, ↓px_rf, ↓pn_xf, ↓rq_pt_0, ↓rq_pt_1, ↓rq_pt_2, ↓rq_pt_3, ↓px_sw, ↓pn_SW, ↓px_ma, ↓reduceIte, Nat.reduceEqDiff, Nat.reduceAdd, Nat.reduceSub, ↓Option.toList_some, ↓Option.toList_none, ↓List.cons_append, ↓List.nil_append, ↓kI_s, ↓kJ_s, ↓kN_s, ↓kO_s, ↓kZ_s, ↓kE_s, ↓an_rfl, ↓bt1 n00, ↓bt2 n00, ↓bf1 n10, ↓bf2 n10, ↓an_sz0, ↓an_sz1, ↓an_sz2, ↓an_sz3, ↓an_sz4, ↓an_ri, ↓an_rb0, ↓an_rb1, ↓an_b0, ↓an_b1, true_and, ↓ai_0s, ↓al_0s, ↓av_0s, ↓aq_0s, ↓ai_1s, ↓al_1s, ↓av_1s, ↓aq_1s, ↓ai_2s, ↓al_2s, ↓av_2s, ↓aq_2s, ↓ai_3s, ↓al_3s, ↓av_3s, ↓aq_3s, ↓ai_4s, ↓al_4s, ↓av_4s, ↓aq_4s, ↓ai_5s, ↓al_5s, ↓av_5s, ↓aq_5s, ↓ai_6s, ↓al_6s, ↓av_6s, ↓aq_6s, ↓ai_7s, ↓al_7s, ↓av_7s, ↓aq_7s, ↓an_l4, ↓bk_8010, ↓kp_8010_7]
    exact hs
def Sg_8011 (g : px_M → Nat → Int32 → Int32 → Int32 → Option (px_M)) : px_S := fun av σ k => av_0 av (fun x0 av => ai_1 av (fun x1 av => ai_2 av (fun x2 av => ai_3 av (fun x3 av => av = [] ∧ oW (g σ x0 x1 x2 x3) (fun τ => k none τ)))))
/-- NoThree$Painter.setSketch(III)V -/
noncomputable def f_8011_8 (tab : px_T) (σ : px_M) (x0 : Nat) (x2 : Int32) (x3 : Int32) (x4 : Int32) : Option (px_M) := if x2 < nI 0 then (some (σ)) else (if x4 < nI 0 then (some (σ)) else (gd (px_obj (px_lay tab x0) 8) ((((σ).2.2 x0 1)).bind fun n1 => oA (px_lay tab n1) fun t2 l3 => gd (t2 < 12) (if (nI l3) ≤ x4 then (some (σ)) else (gd (t2 = 0) (gd (vp_in x4 l3) (some ((px_wi σ n1 (x4).toNatClampNeg x3)))))))))
noncomputable def f_8011 (tab : px_T) (σ : px_M) (x0 : Nat) (x1 : Int32) (x2 : Int32) (x3 : Int32) : Option (px_M) := f_8011_8 tab σ x0 x2 x3 (((x1 * (nI 11)) + x2))
def kp_8011_8 (Q : Nat → Int32 → Int32 → Int32 → px_M → Prop) : px_P := fun ls st τ => st = [] ∧ kN ls (fun x0 ls => kZ ls (fun ls => kI ls (fun x2 ls => kI ls (fun x3 ls => kI ls (fun x4 ls => kE ls (Q x0 x2 x3 x4 τ))))))
theorem kq_8011_8 {C : px_C} {k : Option px_V → px_M → Prop} {Q : Nat → Int32 → Int32 → Int32 → px_M → Prop} (H : ∀ (x0 : Nat) (x2 : Int32) (x3 : Int32) (x4 : Int32) (τ : px_M), Q x0 x2 x3 x4 τ → ∀ (z1 : Option px_V), px_W C k 8 [some (.inr (.inr (some x0))), z1, some (.inl x2), some (.inl x3), some (.inl x4)] [] τ) : ∀ ls st τ, kp_8011_8 Q ls st τ → px_W C k 8 ls st τ := by
  intro ls st τ hz
  obtain ⟨ez, h0⟩ := hz
  obtain ⟨x0, l0, e0, h1⟩ := kN_sp h0
  obtain ⟨z1, l1, e1, h2⟩ := kZ_sp h1
  obtain ⟨x2, l2, e2, h3⟩ := kI_sp h2
  obtain ⟨x3, l3, e3, h4⟩ := kI_sp h3
  obtain ⟨x4, l4, e4, h5⟩ := kI_sp h4
  obtain ⟨ey, hy⟩ := kE_sp h5
  subst ez
  subst ey
  subst e4
  subst e3
  subst e2
  subst e1
  subst e0
  exact H x0 x2 x3 x4 τ hy z1
set_option maxHeartbeats 4000000 in
set_option maxRecDepth 100000 in
theorem rl_8011_8 {C : px_C} (hn : px_nd (px_tb C)) {h : Nat} (hh : 1 ≤ h) (hC : px_ok C pn_i8011 h) {k : Option px_V → px_M → Prop} {x0 : Nat} {x2 : Int32} {x3 : Int32} {x4 : Int32} {σ : px_M} (hs : oW (f_8011_8 (px_tb C) σ x0 x2 x3 x4) (fun τ => k none τ)) : ∀ (z1 : Option px_V), px_W C k 8 [some (.inr (.inr (some x0))), z1, some (.inl x2), some (.inl x3), some (.inl x4)] [] σ := by
  intro z1
  refine px_runH (h - 1) ck_8011 [] [] 80 5 none rfl rfl hC px_nosp (by omega) px_nocut (fun G Jf hG hJf => ?_)
  unfold f_8011_8 at hs
  by_cases hc0 : x2 < nI 0
  · replace hs := oW_t hs hc0
    simp (implicitDefEqProofs := false) only [↓hG, ↓hJf, ↓px_vc, ↓px_ex, ↓px_jp, ↓rq_gi_0, ↓rq_gi_S, ↓rq_gl_0, ↓rq_gl_S, ↓rq_gr_0, ↓rq_gr_S, ↓rq_s1_0, ↓rq_s1_1, ↓rq_s1_S, ↓rq_s2_0, ↓rq_s2_1, ↓rq_s2_S, ↓rq_nl_n, ↓rq_nl_i, ↓rq_nl_l, ↓rq_nl_r, ↓rq_i1_s, ↓rq_l1_s, ↓r1_s, ↓rq_q1_s, ↓rq_i2_s, ↓rq_l2_s, ↓rq_il_s, ↓rq_d0_s, ↓rq_d1_i, ↓rq_d1_r, ↓rq_d2_l, ↓rq_d2_ii, ↓rq_d2_ir, ↓px_pop, ↓px_sp, ↓px_rd, ↓px_rf, ↓pn_xf, ↓rq_pt_0, ↓rq_pt_1, ↓rq_pt_2, ↓rq_pt_3, ↓px_sw, ↓pn_SW, ↓px_ma, ↓reduceIte, Nat.reduceEqDiff, Nat.reduceAdd, Nat.reduceSub, ↓Option.toList_some, ↓Option.toList_none, ↓List.cons_append, ↓List.nil_append, ↓kI_s, ↓kJ_s, ↓kN_s, ↓kO_s, ↓kZ_s, ↓kE_s, ↓an_rfl, ↓bt1 n00, ↓bt2 n00, ↓bf1 n10, ↓bf2 n10, ↓an_sz0, ↓an_sz1, ↓an_sz2, ↓an_sz3, ↓an_sz4, ↓an_ri, ↓an_rb0, ↓an_rb1, ↓an_b0, ↓an_b1, true_and, ↓ai_0s, ↓al_0s, ↓av_0s, ↓aq_0s, ↓ai_1s, ↓al_1s, ↓av_1s, ↓aq_1s, ↓ai_2s, ↓al_2s, ↓av_2s, ↓aq_2s, ↓ai_3s, ↓al_3s, ↓av_3s, ↓aq_3s, ↓ai_4s, ↓al_4s, ↓av_4s, ↓aq_4s, ↓ai_5s, ↓al_5s, ↓av_5s, ↓aq_5s, ↓ai_6s, ↓al_6s, ↓av_6s, ↓aq_6s, ↓ai_7s, ↓al_7s, ↓av_7s, ↓aq_7s, ↓an_l5, ↓bk_8011, ↓bt1 hc0, ↓bt2 hc0]
    rw [oW_some] at hs
    exact hs
  · replace hs := oW_f hs hc0
    by_cases hc1 : x4 < nI 0
    · replace hs := oW_t hs hc1
      simp (implicitDefEqProofs := false) only [↓hG, ↓hJf, ↓px_vc, ↓px_ex, ↓px_jp, ↓rq_gi_0, ↓rq_gi_S, ↓rq_gl_0, ↓rq_gl_S, ↓rq_gr_0, ↓rq_gr_S, ↓rq_s1_0, ↓rq_s1_1, ↓rq_s1_S, ↓rq_s2_0, ↓rq_s2_1, ↓rq_s2_S, ↓rq_nl_n, ↓rq_nl_i, ↓rq_nl_l, ↓rq_nl_r, ↓rq_i1_s, ↓rq_l1_s, ↓r1_s, ↓rq_q1_s, ↓rq_i2_s, ↓rq_l2_s, ↓rq_il_s, ↓rq_d0_s, ↓rq_d1_i, ↓rq_d1_r, ↓rq_d2_l, ↓rq_d2_ii, ↓rq_d2_ir, ↓px_pop, ↓px_sp, ↓px_rd, ↓px_rf, ↓pn_xf, ↓rq_pt_0, ↓rq_pt_1, ↓rq_pt_2, ↓rq_pt_3, ↓px_sw, ↓pn_SW, ↓px_ma, ↓reduceIte, Nat.reduceEqDiff, Nat.reduceAdd, Nat.reduceSub, ↓Option.toList_some, ↓Option.toList_none, ↓List.cons_append, ↓List.nil_append, ↓kI_s, ↓kJ_s, ↓kN_s, ↓kO_s, ↓kZ_s, ↓kE_s, ↓an_rfl, ↓bt1 n00, ↓bt2 n00, ↓bf1 n10, ↓bf2 n10, ↓an_sz0, ↓an_sz1, ↓an_sz2, ↓an_sz3, ↓an_sz4, ↓an_ri, ↓an_rb0, ↓an_rb1, ↓an_b0, ↓an_b1, true_and, ↓ai_0s, ↓al_0s, ↓av_0s, ↓aq_0s, ↓ai_1s, ↓al_1s, ↓av_1s, ↓aq_1s, ↓ai_2s, ↓al_2s, ↓av_2s, ↓aq_2s, ↓ai_3s, ↓al_3s, ↓av_3s, ↓aq_3s, ↓ai_4s, ↓al_4s, ↓av_4s, ↓aq_4s, ↓ai_5s, ↓al_5s, ↓av_5s, ↓aq_5s, ↓ai_6s, ↓al_6s, ↓av_6s, ↓aq_6s, ↓ai_7s, ↓al_7s, ↓av_7s, ↓aq_7s, ↓an_l5, ↓bk_8011, ↓bf1 hc0, ↓bf2 hc0, ↓bt1 hc1, ↓bt2 hc1]
      rw [oW_some] at hs
      exact hs
    · replace hs := oW_f hs hc1
      obtain ⟨hc2, hs⟩ := oW_gx hs
      obtain ⟨n1, hc3, hs⟩ := oW_bx hs
      obtain ⟨t2, l3, hc4, hs⟩ := oW_ax hs
      obtain ⟨hc5, hs⟩ := oW_gx hs
      by_cases hc6 : (nI l3) ≤ x4
      · replace hs := oW_t hs hc6
        simp (implicitDefEqProofs := false) only [↓hG, ↓hJf, ↓px_vc, ↓px_ex, ↓px_jp, ↓rq_gi_0, ↓rq_gi_S, ↓rq_gl_0, ↓rq_gl_S, ↓rq_gr_0, ↓rq_gr_S, ↓rq_s1_0, ↓rq_s1_1, ↓rq_s1_S, ↓rq_s2_0, ↓rq_s2_1, ↓rq_s2_S, ↓rq_nl_n, ↓rq_nl_i, ↓rq_nl_l, ↓rq_nl_r, ↓rq_i1_s, ↓rq_l1_s, ↓r1_s, ↓rq_q1_s, ↓rq_i2_s, ↓rq_l2_s, ↓rq_il_s, ↓rq_d0_s, ↓rq_d1_i, ↓rq_d1_r, ↓rq_d2_l, ↓rq_d2_ii, ↓rq_d2_ir, ↓px_pop, ↓px_sp, ↓px_rd, ↓px_rf, ↓pn_xf, ↓rq_pt_0, ↓rq_pt_1, ↓rq_pt_2, ↓rq_pt_3, ↓px_sw, ↓pn_SW, ↓px_ma, ↓reduceIte, Nat.reduceEqDiff, Nat.reduceAdd, Nat.reduceSub, ↓Option.toList_some, ↓Option.toList_none, ↓List.cons_append, ↓List.nil_append, ↓kI_s, ↓kJ_s, ↓kN_s, ↓kO_s, ↓kZ_s, ↓kE_s, ↓an_rfl, ↓bt1 n00, ↓bt2 n00, ↓bf1 n10, ↓bf2 n10, ↓an_sz0, ↓an_sz1, ↓an_sz2, ↓an_sz3, ↓an_sz4, ↓an_ri, ↓an_rb0, ↓an_rb1, ↓an_b0, ↓an_b1, true_and, ↓ai_0s, ↓al_0s, ↓av_0s, ↓aq_0s, ↓ai_1s, ↓al_1s, ↓av_1s, ↓aq_1s, ↓ai_2s, ↓al_2s, ↓av_2s, ↓aq_2s, ↓ai_3s, ↓al_3s, ↓av_3s, ↓aq_3s, ↓ai_4s, ↓al_4s, ↓av_4s, ↓aq_4s, ↓ai_5s, ↓al_5s, ↓av_5s, ↓aq_5s, ↓ai_6s, ↓al_6s, ↓av_6s, ↓aq_6s, ↓ai_7s, ↓al_7s, ↓av_7s, ↓aq_7s, ↓an_l5, ↓bk_8011, ↓bf1 hc0, ↓bf2 hc0, ↓bf1 hc1, ↓bf2 hc1, ↓an_t hc2, ↓an_rv hc2, ↓r1_e hc3, ↓av_0e hc3, ↓av_1e hc3, ↓av_2e hc3, ↓av_3e hc3, ↓ar_e hc4, ↓an_t hc5, ↓bt1 hc6, ↓bt2 hc6]
        rw [oW_some] at hs
        exact hs
      · replace hs := oW_f hs hc6
        obtain ⟨hc7, hs⟩ := oW_gx hs
        obtain ⟨hc8, hs⟩ := oW_gx hs
        simp (implicitDefEqProofs := false) only [↓hG, ↓hJf, ↓px_vc, ↓px_ex, ↓px_jp, ↓rq_gi_0, ↓rq_gi_S, ↓rq_gl_0, ↓rq_gl_S, ↓rq_gr_0, ↓rq_gr_S, ↓rq_s1_0, ↓rq_s1_1, ↓rq_s1_S, ↓rq_s2_0, ↓rq_s2_1, ↓rq_s2_S, ↓rq_nl_n, ↓rq_nl_i, ↓rq_nl_l, ↓rq_nl_r, ↓rq_i1_s, ↓rq_l1_s, ↓r1_s, ↓rq_q1_s, ↓rq_i2_s, ↓rq_l2_s, ↓rq_il_s, ↓rq_d0_s, ↓rq_d1_i, ↓rq_d1_r, ↓rq_d2_l, ↓rq_d2_ii, ↓rq_d2_ir, ↓px_pop, ↓px_sp, ↓px_rd, ↓px_rf, ↓pn_xf, ↓rq_pt_0, ↓rq_pt_1, ↓rq_pt_2, ↓rq_pt_3, ↓px_sw, ↓pn_SW, ↓px_ma, ↓reduceIte, Nat.reduceEqDiff, Nat.reduceAdd, Nat.reduceSub, ↓Option.toList_some, ↓Option.toList_none, ↓List.cons_append, ↓List.nil_append, ↓kI_s, ↓kJ_s, ↓kN_s, ↓kO_s, ↓kZ_s, ↓kE_s, ↓an_rfl, ↓bt1 n00, ↓bt2 n00, ↓bf1 n10, ↓bf2 n10, ↓an_sz0, ↓an_sz1, ↓an_sz2, ↓an_sz3, ↓an_sz4, ↓an_ri, ↓an_rb0, ↓an_rb1, ↓an_b0, ↓an_b1, true_and, ↓ai_0s, ↓al_0s, ↓av_0s, ↓aq_0s, ↓ai_1s, ↓al_1s, ↓av_1s, ↓aq_1s, ↓ai_2s, ↓al_2s, ↓av_2s, ↓aq_2s, ↓ai_3s, ↓al_3s, ↓av_3s, ↓aq_3s, ↓ai_4s, ↓al_4s, ↓av_4s, ↓aq_4s, ↓ai_5s, ↓al_5s, ↓av_5s, ↓aq_5s, ↓ai_6s, ↓al_6s, ↓av_6s, ↓aq_6s, ↓ai_7s, ↓al_7s, ↓av_7s, ↓aq_7s, ↓an_l5, ↓bk_8011, ↓bf1 hc0, ↓bf2 hc0, ↓bf1 hc1, ↓bf2 hc1, ↓an_t hc2, ↓an_rv hc2, ↓r1_e hc3, ↓av_0e hc3, ↓av_1e hc3, ↓av_2e hc3, ↓av_3e hc3, ↓ar_e hc4, ↓an_t hc5, ↓bf1 hc6, ↓bf2 hc6, ↓an_t hc7, ↓an_t hc8]
        rw [oW_some] at hs
        exact hs
set_option maxHeartbeats 4000000 in
set_option maxRecDepth 100000 in
theorem mf_8011 {tab : px_T} (hn : px_nd tab) {h : Nat} (hh : 1 ≤ h) : px_Ok tab pn_i8011 h (Sg_8011 (f_8011 tab)) := by
  refine px_mth hn (by decide +kernel) (fun av σ k hS => ?_) (fun C hT hC av σ k hS => ?_)
  · obtain ⟨x0, av0, e0, h0⟩ := av_0p hS
    obtain ⟨x1, av1, e1, h1⟩ := ai_1p h0
    obtain ⟨x2, av2, e2, h2⟩ := ai_2p h1
    obtain ⟨x3, av3, e3, h3⟩ := ai_3p h2
    obtain ⟨ez, hs⟩ := h3
    subst ez
    subst e3
    subst e2
    subst e1
    subst e0
    exact Nat.le_of_ble_eq_true rfl
  · obtain ⟨x0, av0, e0, h0⟩ := av_0p hS
    obtain ⟨x1, av1, e1, h1⟩ := ai_1p h0
    obtain ⟨x2, av2, e2, h2⟩ := ai_2p h1
    obtain ⟨x3, av3, e3, h3⟩ := ai_3p h2
    obtain ⟨ez, hs⟩ := h3
    subst ez
    subst e3
    subst e2
    subst e1
    subst e0
    subst hT
    show px_W C k 0 [some (.inr (.inr (some x0))), some (.inl x1), some (.inl x2), some (.inl x3), none] [] σ
    refine px_runH (h - 1) ck_8011 [] [(8, kp_8011_8 (fun y0 y2 y3 y4 τ => oW (f_8011_8 (px_tb C) τ y0 y2 y3 y4) (fun τ => k none τ)))] 80 5 none rfl rfl hC px_nosp (by omega) (px_cut1 (kq_8011_8 (fun y0 y2 y3 y4 τ hq => by exact rl_8011_8 hn (by omega) hC  hq)) px_nocut) (fun G Jf hG hJf => ?_)
    unfold f_8011 at hs
    simp (implicitDefEqProofs := false) only [↓hG, ↓hJf, ↓px_vc, ↓px_ex, ↓px_jp, ↓rq_gi_0, ↓rq_gi_S, ↓rq_gl_0, ↓rq_gl_S, ↓rq_gr_0, ↓rq_gr_S, ↓rq_s1_0, ↓rq_s1_1, ↓rq_s1_S, ↓rq_s2_0, ↓rq_s2_1, ↓rq_s2_S, ↓rq_nl_n, ↓rq_nl_i, ↓rq_nl_l, ↓rq_nl_r, ↓rq_i1_s, ↓rq_l1_s, ↓r1_s, ↓rq_q1_s, ↓rq_i2_s, ↓rq_l2_s, ↓rq_il_s, ↓rq_d0_s, ↓rq_d1_i, ↓rq_d1_r, ↓rq_d2_l, ↓rq_d2_ii, ↓rq_d2_ir, ↓px_pop, ↓px_sp, ↓px_rd, ↓px_rf, ↓pn_xf, ↓rq_pt_0, ↓rq_pt_1, ↓rq_pt_2, ↓rq_pt_3, ↓px_sw, ↓pn_SW, ↓px_ma, ↓reduceIte, Nat.reduceEqDiff, Nat.reduceAdd, Nat.reduceSub, ↓Option.toList_some, ↓Option.toList_none, ↓List.cons_append, ↓List.nil_append, ↓kI_s, ↓kJ_s, ↓kN_s, ↓kO_s, ↓kZ_s, ↓kE_s, ↓an_rfl, ↓bt1 n00, ↓bt2 n00, ↓bf1 n10, ↓bf2 n10, ↓an_sz0, ↓an_sz1, ↓an_sz2, ↓an_sz3, ↓an_sz4, ↓an_ri, ↓an_rb0, ↓an_rb1, ↓an_b0, ↓an_b1, true_and, ↓ai_0s, ↓al_0s, ↓av_0s, ↓aq_0s, ↓ai_1s, ↓al_1s, ↓av_1s, ↓aq_1s, ↓ai_2s, ↓al_2s, ↓av_2s, ↓aq_2s, ↓ai_3s, ↓al_3s, ↓av_3s, ↓aq_3s, ↓ai_4s, ↓al_4s, ↓av_4s, ↓aq_4s, ↓ai_5s, ↓al_5s, ↓av_5s, ↓aq_5s, ↓ai_6s, ↓al_6s, ↓av_6s, ↓aq_6s, ↓ai_7s, ↓al_7s, ↓av_7s, ↓aq_7s, ↓an_l5, ↓bk_8011, ↓kp_8011_8]
    exact hs
def Sg_8013 (g : px_M → Nat → Int32 → Int32 → Option (Int32)) : px_S := fun av σ k => av_0 av (fun x0 av => ai_1 av (fun x1 av => ai_2 av (fun x2 av => av = [] ∧ oW (g σ x0 x1 x2) (fun r => k (some (.inl r)) σ))))
/-- NoThree$Painter.looseOf(II)I -/
noncomputable def F_8013_41 (tab : px_T) (σ : px_M) (x0 : Nat) (x1 : Int32) (x2 : Int32) (x3 : Int32) (x4 : Int32) (x5 : Int32) : Option ((Int32) ⊕ ((Int32) ⊕ (Int32))) := if (nI 11) ≤ x5 then (some (.inr (.inl ((x3 + (nI 1)))))) else (if x4 = nI 0 then (some (.inr (.inl ((x3 + (nI 1)))))) else (if (x4 &&& ((nI 1) <<< (x5 &&& 31))) = nI 0 then (some (.inl ((x5 + (nI 1))))) else (some (.inr (.inr ((((nI 11) * x3) + x5)))))))
noncomputable def f_8013_41 (tab : px_T) (σ : px_M) (x0 : Nat) (x1 : Int32) (x2 : Int32) (x3 : Int32) (x4 : Int32) (x5 : Int32) : Option ((Int32) ⊕ (Int32)) := lpO (fun s : Int32 => F_8013_41 tab σ x0 x1 x2 x3 x4 s) x5
theorem f_8013_41_eq (tab : px_T) (σ : px_M) (x0 : Nat) (x1 : Int32) (x2 : Int32) (x3 : Int32) (x4 : Int32) (x5 : Int32) : f_8013_41 tab σ x0 x1 x2 x3 x4 x5 = (F_8013_41 tab σ x0 x1 x2 x3 x4 x5).bind (Sum.elim (fun s => f_8013_41 tab σ x0 x1 x2 x3 x4 s) some) := lpO_eq _ _
noncomputable def f_8013_36 (tab : px_T) (σ : px_M) (x0 : Nat) (x1 : Int32) (x2 : Int32) (x3 : Int32) (x4 : Int32) : Option ((Int32) ⊕ (Int32)) := f_8013_41 tab σ x0 x1 x2 x3 x4 ((x3 + (nI 1)))
noncomputable def F_8013_2 (tab : px_T) (σ : px_M) (x0 : Nat) (x1 : Int32) (x2 : Int32) (x3 : Int32) : Option ((Int32) ⊕ (Int32)) := if (nI 11) ≤ x3 then (some (.inr ((-1)))) else (bn ((x2 &&& ((nI 1) <<< (x3 &&& 31))) = nI 0) (gd (px_obj (px_lay tab x0) 8) ((f_8010 tab σ x0 x1 x3).bind fun r1 => f_8013_36 tab σ x0 x1 x2 x3 (((x2 &&& (r1 ^^^ (-1))) &&& ((-2 : Int32) <<< (x3 &&& 31)))))) (some (.inl ((x3 + (nI 1))))))
noncomputable def f_8013_2 (tab : px_T) (σ : px_M) (x0 : Nat) (x1 : Int32) (x2 : Int32) (x3 : Int32) : Option (Int32) := lpO (fun s : Int32 => F_8013_2 tab σ x0 x1 x2 s) x3
theorem f_8013_2_eq (tab : px_T) (σ : px_M) (x0 : Nat) (x1 : Int32) (x2 : Int32) (x3 : Int32) : f_8013_2 tab σ x0 x1 x2 x3 = (F_8013_2 tab σ x0 x1 x2 x3).bind (Sum.elim (fun s => f_8013_2 tab σ x0 x1 x2 s) some) := lpO_eq _ _
noncomputable def f_8013 (tab : px_T) (σ : px_M) (x0 : Nat) (x1 : Int32) (x2 : Int32) : Option (Int32) := f_8013_2 tab σ x0 x1 x2 ((nI 0))
def kp_8013_41 (Q : Nat → Int32 → Int32 → Int32 → Int32 → Int32 → px_M → Prop) : px_P := fun ls st τ => st = [] ∧ kN ls (fun x0 ls => kI ls (fun x1 ls => kI ls (fun x2 ls => kI ls (fun x3 ls => kI ls (fun x4 ls => kI ls (fun x5 ls => kE ls (Q x0 x1 x2 x3 x4 x5 τ)))))))
theorem kq_8013_41 {C : px_C} {k : Option px_V → px_M → Prop} {Q : Nat → Int32 → Int32 → Int32 → Int32 → Int32 → px_M → Prop} (H : ∀ (x0 : Nat) (x1 : Int32) (x2 : Int32) (x3 : Int32) (x4 : Int32) (x5 : Int32) (τ : px_M), Q x0 x1 x2 x3 x4 x5 τ → px_W C k 41 [some (.inr (.inr (some x0))), some (.inl x1), some (.inl x2), some (.inl x3), some (.inl x4), some (.inl x5)] [] τ) : ∀ ls st τ, kp_8013_41 Q ls st τ → px_W C k 41 ls st τ := by
  intro ls st τ hz
  obtain ⟨ez, h0⟩ := hz
  obtain ⟨x0, l0, e0, h1⟩ := kN_sp h0
  obtain ⟨x1, l1, e1, h2⟩ := kI_sp h1
  obtain ⟨x2, l2, e2, h3⟩ := kI_sp h2
  obtain ⟨x3, l3, e3, h4⟩ := kI_sp h3
  obtain ⟨x4, l4, e4, h5⟩ := kI_sp h4
  obtain ⟨x5, l5, e5, h6⟩ := kI_sp h5
  obtain ⟨ey, hy⟩ := kE_sp h6
  subst ez
  subst ey
  subst e5
  subst e4
  subst e3
  subst e2
  subst e1
  subst e0
  exact H x0 x1 x2 x3 x4 x5 τ hy
def kp_8013_36 (Q : Nat → Int32 → Int32 → Int32 → Int32 → px_M → Prop) : px_P := fun ls st τ => st = [] ∧ kN ls (fun x0 ls => kI ls (fun x1 ls => kI ls (fun x2 ls => kI ls (fun x3 ls => kI ls (fun x4 ls => kZ ls (fun ls => kE ls (Q x0 x1 x2 x3 x4 τ)))))))
theorem kq_8013_36 {C : px_C} {k : Option px_V → px_M → Prop} {Q : Nat → Int32 → Int32 → Int32 → Int32 → px_M → Prop} (H : ∀ (x0 : Nat) (x1 : Int32) (x2 : Int32) (x3 : Int32) (x4 : Int32) (τ : px_M), Q x0 x1 x2 x3 x4 τ → ∀ (z5 : Option px_V), px_W C k 36 [some (.inr (.inr (some x0))), some (.inl x1), some (.inl x2), some (.inl x3), some (.inl x4), z5] [] τ) : ∀ ls st τ, kp_8013_36 Q ls st τ → px_W C k 36 ls st τ := by
  intro ls st τ hz
  obtain ⟨ez, h0⟩ := hz
  obtain ⟨x0, l0, e0, h1⟩ := kN_sp h0
  obtain ⟨x1, l1, e1, h2⟩ := kI_sp h1
  obtain ⟨x2, l2, e2, h3⟩ := kI_sp h2
  obtain ⟨x3, l3, e3, h4⟩ := kI_sp h3
  obtain ⟨x4, l4, e4, h5⟩ := kI_sp h4
  obtain ⟨z5, l5, e5, h6⟩ := kZ_sp h5
  obtain ⟨ey, hy⟩ := kE_sp h6
  subst ez
  subst ey
  subst e5
  subst e4
  subst e3
  subst e2
  subst e1
  subst e0
  exact H x0 x1 x2 x3 x4 τ hy z5
def kp_8013_2 (Q : Nat → Int32 → Int32 → Int32 → px_M → Prop) : px_P := fun ls st τ => st = [] ∧ kN ls (fun x0 ls => kI ls (fun x1 ls => kI ls (fun x2 ls => kI ls (fun x3 ls => kZ ls (fun ls => kZ ls (fun ls => kE ls (Q x0 x1 x2 x3 τ)))))))
theorem kq_8013_2 {C : px_C} {k : Option px_V → px_M → Prop} {Q : Nat → Int32 → Int32 → Int32 → px_M → Prop} (H : ∀ (x0 : Nat) (x1 : Int32) (x2 : Int32) (x3 : Int32) (τ : px_M), Q x0 x1 x2 x3 τ → ∀ (z4 : Option px_V) (z5 : Option px_V), px_W C k 2 [some (.inr (.inr (some x0))), some (.inl x1), some (.inl x2), some (.inl x3), z4, z5] [] τ) : ∀ ls st τ, kp_8013_2 Q ls st τ → px_W C k 2 ls st τ := by
  intro ls st τ hz
  obtain ⟨ez, h0⟩ := hz
  obtain ⟨x0, l0, e0, h1⟩ := kN_sp h0
  obtain ⟨x1, l1, e1, h2⟩ := kI_sp h1
  obtain ⟨x2, l2, e2, h3⟩ := kI_sp h2
  obtain ⟨x3, l3, e3, h4⟩ := kI_sp h3
  obtain ⟨z4, l4, e4, h5⟩ := kZ_sp h4
  obtain ⟨z5, l5, e5, h6⟩ := kZ_sp h5
  obtain ⟨ey, hy⟩ := kE_sp h6
  subst ez
  subst ey
  subst e5
  subst e4
  subst e3
  subst e2
  subst e1
  subst e0
  exact H x0 x1 x2 x3 τ hy z4 z5
set_option maxHeartbeats 4000000 in
set_option maxRecDepth 100000 in
theorem rl_8013_41 {C : px_C} (hn : px_nd (px_tb C)) {h : Nat} (hh : 2 ≤ h) (hC : px_ok C pn_i8013 h) {k : Option px_V → px_M → Prop} {x0 : Nat} {x1 : Int32} {x2 : Int32} {x3 : Int32} {x4 : Int32} {σ : px_M} : ∀ s : Int32, oW (f_8013_41 (px_tb C) σ x0 x1 x2 x3 x4 s) (Sum.elim (fun s : Int32 => ∀ (z4 : Option px_V) (z5 : Option px_V), px_W C k 2 [some (.inr (.inr (some x0))), some (.inl x1), some (.inl x2), some (.inl s), z4, z5] [] σ) (fun r => k (some (.inl r)) σ)) → (fun s : Int32 => px_W C k 41 [some (.inr (.inr (some x0))), some (.inl x1), some (.inl x2), some (.inl x3), some (.inl x4), some (.inl s)] [] σ) s := by
  intro s h0
  refine lpO_sound (P := (fun s : Int32 => px_W C k 41 [some (.inr (.inr (some x0))), some (.inl x1), some (.inl x2), some (.inl x3), some (.inl x4), some (.inl s)] [] σ)) (fun s hs => ?_) h0
  revert hs
  generalize s = x5
  intro hs
  refine px_runH (h - 1) ck_8013 [] [(2, kp_8013_2 (fun y0 y1 y2 y3 τ => y0 = x0 ∧ y1 = x1 ∧ y2 = x2 ∧ τ = σ ∧ (fun s : Int32 => ∀ (z4 : Option px_V) (z5 : Option px_V), px_W C k 2 [some (.inr (.inr (some x0))), some (.inl x1), some (.inl x2), some (.inl s), z4, z5] [] σ) y3)), (41, kp_8013_41 (fun y0 y1 y2 y3 y4 y5 τ => y0 = x0 ∧ y1 = x1 ∧ y2 = x2 ∧ y3 = x3 ∧ y4 = x4 ∧ τ = σ ∧ (fun s : Int32 => px_W C k 41 [some (.inr (.inr (some x0))), some (.inl x1), some (.inl x2), some (.inl x3), some (.inl x4), some (.inl s)] [] σ) y5))] 80 6 (some .int) rfl rfl hC px_nosp (by omega) (px_cut1 (kq_8013_2 (fun y0 y1 y2 y3 τ hq => by obtain ⟨rfl, rfl, rfl, rfl, hq⟩ := hq; exact hq)) (px_cut1 (kq_8013_41 (fun y0 y1 y2 y3 y4 y5 τ hq => by obtain ⟨rfl, rfl, rfl, rfl, rfl, rfl, hq⟩ := hq; exact hq)) px_nocut)) (fun G Jf hG hJf => ?_)
  replace hs : oW (F_8013_41 (px_tb C) σ x0 x1 x2 x3 x4 x5) _ := hs
  unfold F_8013_41 at hs
  by_cases hc0 : (nI 11) ≤ x5
  · replace hs := oW_t hs hc0
    simp (implicitDefEqProofs := false) only [↓hG, ↓hJf, ↓px_vc, ↓px_ex, ↓px_jp, ↓rq_gi_0, ↓rq_gi_S, ↓rq_gl_0, ↓rq_gl_S, ↓rq_gr_0, ↓rq_gr_S, ↓rq_s1_0, ↓rq_s1_1, ↓rq_s1_S, ↓rq_s2_0, ↓rq_s2_1, ↓rq_s2_S, ↓rq_nl_n, ↓rq_nl_i, ↓rq_nl_l, ↓rq_nl_r, ↓rq_i1_s, ↓rq_l1_s, ↓r1_s, ↓rq_q1_s, ↓rq_i2_s, ↓rq_l2_s, ↓rq_il_s, ↓rq_d0_s, ↓rq_d1_i, ↓rq_d1_r, ↓rq_d2_l, ↓rq_d2_ii, ↓rq_d2_ir, ↓px_pop, ↓px_sp, ↓px_rd, ↓px_rf, ↓pn_xf, ↓rq_pt_0, ↓rq_pt_1, ↓rq_pt_2, ↓rq_pt_3, ↓px_sw, ↓pn_SW, ↓px_ma, ↓reduceIte, Nat.reduceEqDiff, Nat.reduceAdd, Nat.reduceSub, ↓Option.toList_some, ↓Option.toList_none, ↓List.cons_append, ↓List.nil_append, ↓kI_s, ↓kJ_s, ↓kN_s, ↓kO_s, ↓kZ_s, ↓kE_s, ↓an_rfl, ↓bt1 n00, ↓bt2 n00, ↓bf1 n10, ↓bf2 n10, ↓an_sz0, ↓an_sz1, ↓an_sz2, ↓an_sz3, ↓an_sz4, ↓an_ri, ↓an_rb0, ↓an_rb1, ↓an_b0, ↓an_b1, true_and, ↓ai_0s, ↓al_0s, ↓av_0s, ↓aq_0s, ↓ai_1s, ↓al_1s, ↓av_1s, ↓aq_1s, ↓ai_2s, ↓al_2s, ↓av_2s, ↓aq_2s, ↓ai_3s, ↓al_3s, ↓av_3s, ↓aq_3s, ↓ai_4s, ↓al_4s, ↓av_4s, ↓aq_4s, ↓ai_5s, ↓al_5s, ↓av_5s, ↓aq_5s, ↓ai_6s, ↓al_6s, ↓av_6s, ↓aq_6s, ↓ai_7s, ↓al_7s, ↓av_7s, ↓aq_7s, ↓an_l6, ↓bk_8013, ↓kp_8013_2, ↓kp_8013_41, ↓bt1 hc0, ↓bt2 hc0]
    rw [oW_some] at hs
    exact hs
  · replace hs := oW_f hs hc0
    by_cases hc1 : x4 = nI 0
    · replace hs := oW_t hs hc1
      simp (implicitDefEqProofs := false) only [↓hG, ↓hJf, ↓px_vc, ↓px_ex, ↓px_jp, ↓rq_gi_0, ↓rq_gi_S, ↓rq_gl_0, ↓rq_gl_S, ↓rq_gr_0, ↓rq_gr_S, ↓rq_s1_0, ↓rq_s1_1, ↓rq_s1_S, ↓rq_s2_0, ↓rq_s2_1, ↓rq_s2_S, ↓rq_nl_n, ↓rq_nl_i, ↓rq_nl_l, ↓rq_nl_r, ↓rq_i1_s, ↓rq_l1_s, ↓r1_s, ↓rq_q1_s, ↓rq_i2_s, ↓rq_l2_s, ↓rq_il_s, ↓rq_d0_s, ↓rq_d1_i, ↓rq_d1_r, ↓rq_d2_l, ↓rq_d2_ii, ↓rq_d2_ir, ↓px_pop, ↓px_sp, ↓px_rd, ↓px_rf, ↓pn_xf, ↓rq_pt_0, ↓rq_pt_1, ↓rq_pt_2, ↓rq_pt_3, ↓px_sw, ↓pn_SW, ↓px_ma, ↓reduceIte, Nat.reduceEqDiff, Nat.reduceAdd, Nat.reduceSub, ↓Option.toList_some, ↓Option.toList_none, ↓List.cons_append, ↓List.nil_append, ↓kI_s, ↓kJ_s, ↓kN_s, ↓kO_s, ↓kZ_s, ↓kE_s, ↓an_rfl, ↓bt1 n00, ↓bt2 n00, ↓bf1 n10, ↓bf2 n10, ↓an_sz0, ↓an_sz1, ↓an_sz2, ↓an_sz3, ↓an_sz4, ↓an_ri, ↓an_rb0, ↓an_rb1, ↓an_b0, ↓an_b1, true_and, ↓ai_0s, ↓al_0s, ↓av_0s, ↓aq_0s, ↓ai_1s, ↓al_1s, ↓av_1s, ↓aq_1s, ↓ai_2s, ↓al_2s, ↓av_2s, ↓aq_2s, ↓ai_3s, ↓al_3s, ↓av_3s, ↓aq_3s, ↓ai_4s, ↓al_4s, ↓av_4s, ↓aq_4s, ↓ai_5s, ↓al_5s, ↓av_5s, ↓aq_5s, ↓ai_6s, ↓al_6s, ↓av_6s, ↓aq_6s, ↓ai_7s, ↓al_7s, ↓av_7s, ↓aq_7s, ↓an_l6, ↓bk_8013, ↓kp_8013_2, ↓kp_8013_41, ↓bf1 hc0, ↓bf2 hc0, ↓bt1 hc1, ↓bt2 hc1]
      rw [oW_some] at hs
      exact hs
    · replace hs := oW_f hs hc1
      by_cases hc2 : (x4 &&& ((nI 1) <<< (x5 &&& 31))) = nI 0
      · replace hs := oW_t hs hc2
        simp (implicitDefEqProofs := false) only [↓hG, ↓hJf, ↓px_vc, ↓px_ex, ↓px_jp, ↓rq_gi_0, ↓rq_gi_S, ↓rq_gl_0, ↓rq_gl_S, ↓rq_gr_0, ↓rq_gr_S, ↓rq_s1_0, ↓rq_s1_1, ↓rq_s1_S, ↓rq_s2_0, ↓rq_s2_1, ↓rq_s2_S, ↓rq_nl_n, ↓rq_nl_i, ↓rq_nl_l, ↓rq_nl_r, ↓rq_i1_s, ↓rq_l1_s, ↓r1_s, ↓rq_q1_s, ↓rq_i2_s, ↓rq_l2_s, ↓rq_il_s, ↓rq_d0_s, ↓rq_d1_i, ↓rq_d1_r, ↓rq_d2_l, ↓rq_d2_ii, ↓rq_d2_ir, ↓px_pop, ↓px_sp, ↓px_rd, ↓px_rf, ↓pn_xf, ↓rq_pt_0, ↓rq_pt_1, ↓rq_pt_2, ↓rq_pt_3, ↓px_sw, ↓pn_SW, ↓px_ma, ↓reduceIte, Nat.reduceEqDiff, Nat.reduceAdd, Nat.reduceSub, ↓Option.toList_some, ↓Option.toList_none, ↓List.cons_append, ↓List.nil_append, ↓kI_s, ↓kJ_s, ↓kN_s, ↓kO_s, ↓kZ_s, ↓kE_s, ↓an_rfl, ↓bt1 n00, ↓bt2 n00, ↓bf1 n10, ↓bf2 n10, ↓an_sz0, ↓an_sz1, ↓an_sz2, ↓an_sz3, ↓an_sz4, ↓an_ri, ↓an_rb0, ↓an_rb1, ↓an_b0, ↓an_b1, true_and, ↓ai_0s, ↓al_0s, ↓av_0s, ↓aq_0s, ↓ai_1s, ↓al_1s, ↓av_1s, ↓aq_1s, ↓ai_2s, ↓al_2s, ↓av_2s, ↓aq_2s, ↓ai_3s, ↓al_3s, ↓av_3s, ↓aq_3s, ↓ai_4s, ↓al_4s, ↓av_4s, ↓aq_4s, ↓ai_5s, ↓al_5s, ↓av_5s, ↓aq_5s, ↓ai_6s, ↓al_6s, ↓av_6s, ↓aq_6s, ↓ai_7s, ↓al_7s, ↓av_7s, ↓aq_7s, ↓an_l6, ↓bk_8013, ↓kp_8013_2, ↓kp_8013_41, ↓bf1 hc0, ↓bf2 hc0, ↓bf1 hc1, ↓bf2 hc1, ↓bt1 hc2, ↓bt2 hc2]
        rw [oW_some] at hs
        exact hs
      · replace hs := oW_f hs hc2
        simp (implicitDefEqProofs := false) only [↓hG, ↓hJf, ↓px_vc, ↓px_ex, ↓px_jp, ↓rq_gi_0, ↓rq_gi_S, ↓rq_gl_0, ↓rq_gl_S, ↓rq_gr_0, ↓rq_gr_S, ↓rq_s1_0, ↓rq_s1_1, ↓rq_s1_S, ↓rq_s2_0, ↓rq_s2_1, ↓rq_s2_S, ↓rq_nl_n, ↓rq_nl_i, ↓rq_nl_l, ↓rq_nl_r, ↓rq_i1_s, ↓rq_l1_s, ↓r1_s, ↓rq_q1_s, ↓rq_i2_s, ↓rq_l2_s, ↓rq_il_s, ↓rq_d0_s, ↓rq_d1_i, ↓rq_d1_r, ↓rq_d2_l, ↓rq_d2_ii, ↓rq_d2_ir, ↓px_pop, ↓px_sp, ↓px_rd, ↓px_rf, ↓pn_xf, ↓rq_pt_0, ↓rq_pt_1, ↓rq_pt_2, ↓rq_pt_3, ↓px_sw, ↓pn_SW, ↓px_ma, ↓reduceIte, Nat.reduceEqDiff, Nat.reduceAdd, Nat.reduceSub, ↓Option.toList_some, ↓Option.toList_none, ↓List.cons_append, ↓List.nil_append, ↓kI_s, ↓kJ_s, ↓kN_s, ↓kO_s, ↓kZ_s, ↓kE_s, ↓an_rfl, ↓bt1 n00, ↓bt2 n00, ↓bf1 n10, ↓bf2 n10, ↓an_sz0, ↓an_sz1, ↓an_sz2, ↓an_sz3, ↓an_sz4, ↓an_ri, ↓an_rb0, ↓an_rb1, ↓an_b0, ↓an_b1, true_and, ↓ai_0s, ↓al_0s, ↓av_0s, ↓aq_0s, ↓ai_1s, ↓al_1s, ↓av_1s, ↓aq_1s, ↓ai_2s, ↓al_2s, ↓av_2s, ↓aq_2s, ↓ai_3s, ↓al_3s, ↓av_3s, ↓aq_3s, ↓ai_4s, ↓al_4s, ↓av_4s, ↓aq_4s, ↓ai_5s, ↓al_5s, ↓av_5s, ↓aq_5s, ↓ai_6s, ↓al_6s, ↓av_6s, ↓aq_6s, ↓ai_7s, ↓al_7s, ↓av_7s, ↓aq_7s, ↓an_l6, ↓bk_8013, ↓kp_8013_2, ↓kp_8013_41, ↓bf1 hc0, ↓bf2 hc0, ↓bf1 hc1, ↓bf2 hc1, ↓bf1 hc2, ↓bf2 hc2]
        rw [oW_some] at hs
        exact hs
set_option maxHeartbeats 4000000 in
set_option maxRecDepth 100000 in
theorem rl_8013_36 {C : px_C} (hn : px_nd (px_tb C)) {h : Nat} (hh : 2 ≤ h) (hC : px_ok C pn_i8013 h) {k : Option px_V → px_M → Prop} {x0 : Nat} {x1 : Int32} {x2 : Int32} {x3 : Int32} {x4 : Int32} {σ : px_M} (hs : oW (f_8013_36 (px_tb C) σ x0 x1 x2 x3 x4) (Sum.elim (fun s : Int32 => ∀ (z4 : Option px_V) (z5 : Option px_V), px_W C k 2 [some (.inr (.inr (some x0))), some (.inl x1), some (.inl x2), some (.inl s), z4, z5] [] σ) (fun r => k (some (.inl r)) σ))) : ∀ (z5 : Option px_V), px_W C k 36 [some (.inr (.inr (some x0))), some (.inl x1), some (.inl x2), some (.inl x3), some (.inl x4), z5] [] σ := by
  intro z5
  refine px_runH (h - 1) ck_8013 [] [(41, kp_8013_41 (fun y0 y1 y2 y3 y4 y5 τ => y0 = x0 ∧ y1 = x1 ∧ y2 = x2 ∧ τ = σ ∧ oW (f_8013_41 (px_tb C) τ y0 y1 y2 y3 y4 y5) (Sum.elim (fun s : Int32 => ∀ (z4 : Option px_V) (z5 : Option px_V), px_W C k 2 [some (.inr (.inr (some x0))), some (.inl x1), some (.inl x2), some (.inl s), z4, z5] [] σ) (fun r => k (some (.inl r)) σ))))] 80 6 (some .int) rfl rfl hC px_nosp (by omega) (px_cut1 (kq_8013_41 (fun y0 y1 y2 y3 y4 y5 τ hq => by obtain ⟨rfl, rfl, rfl, rfl, hq⟩ := hq; exact rl_8013_41 hn (by omega) hC y5 hq)) px_nocut) (fun G Jf hG hJf => ?_)
  unfold f_8013_36 at hs
  simp (implicitDefEqProofs := false) only [↓hG, ↓hJf, ↓px_vc, ↓px_ex, ↓px_jp, ↓rq_gi_0, ↓rq_gi_S, ↓rq_gl_0, ↓rq_gl_S, ↓rq_gr_0, ↓rq_gr_S, ↓rq_s1_0, ↓rq_s1_1, ↓rq_s1_S, ↓rq_s2_0, ↓rq_s2_1, ↓rq_s2_S, ↓rq_nl_n, ↓rq_nl_i, ↓rq_nl_l, ↓rq_nl_r, ↓rq_i1_s, ↓rq_l1_s, ↓r1_s, ↓rq_q1_s, ↓rq_i2_s, ↓rq_l2_s, ↓rq_il_s, ↓rq_d0_s, ↓rq_d1_i, ↓rq_d1_r, ↓rq_d2_l, ↓rq_d2_ii, ↓rq_d2_ir, ↓px_pop, ↓px_sp, ↓px_rd, ↓px_rf, ↓pn_xf, ↓rq_pt_0, ↓rq_pt_1, ↓rq_pt_2, ↓rq_pt_3, ↓px_sw, ↓pn_SW, ↓px_ma, ↓reduceIte, Nat.reduceEqDiff, Nat.reduceAdd, Nat.reduceSub, ↓Option.toList_some, ↓Option.toList_none, ↓List.cons_append, ↓List.nil_append, ↓kI_s, ↓kJ_s, ↓kN_s, ↓kO_s, ↓kZ_s, ↓kE_s, ↓an_rfl, ↓bt1 n00, ↓bt2 n00, ↓bf1 n10, ↓bf2 n10, ↓an_sz0, ↓an_sz1, ↓an_sz2, ↓an_sz3, ↓an_sz4, ↓an_ri, ↓an_rb0, ↓an_rb1, ↓an_b0, ↓an_b1, true_and, ↓ai_0s, ↓al_0s, ↓av_0s, ↓aq_0s, ↓ai_1s, ↓al_1s, ↓av_1s, ↓aq_1s, ↓ai_2s, ↓al_2s, ↓av_2s, ↓aq_2s, ↓ai_3s, ↓al_3s, ↓av_3s, ↓aq_3s, ↓ai_4s, ↓al_4s, ↓av_4s, ↓aq_4s, ↓ai_5s, ↓al_5s, ↓av_5s, ↓aq_5s, ↓ai_6s, ↓al_6s, ↓av_6s, ↓aq_6s, ↓ai_7s, ↓al_7s, ↓av_7s, ↓aq_7s, ↓an_l6, ↓bk_8013, ↓kp_8013_41]
  exact hs
set_option maxHeartbeats 4000000 in
set_option maxRecDepth 100000 in
theorem rl_8013_2 {C : px_C} (hn : px_nd (px_tb C)) {h : Nat} (hh : 2 ≤ h) (hC : px_ok C pn_i8013 h) {k : Option px_V → px_M → Prop} {x0 : Nat} {x1 : Int32} {x2 : Int32} {σ : px_M} : ∀ s : Int32, oW (f_8013_2 (px_tb C) σ x0 x1 x2 s) (fun r => k (some (.inl r)) σ) → (fun s : Int32 => ∀ (z4 : Option px_V) (z5 : Option px_V), px_W C k 2 [some (.inr (.inr (some x0))), some (.inl x1), some (.inl x2), some (.inl s), z4, z5] [] σ) s := by
  intro s h0
  refine lpO_sound (P := (fun s : Int32 => ∀ (z4 : Option px_V) (z5 : Option px_V), px_W C k 2 [some (.inr (.inr (some x0))), some (.inl x1), some (.inl x2), some (.inl s), z4, z5] [] σ)) (fun s hs => ?_) h0
  revert hs
  generalize s = x3
  intro hs
  intro z4 z5
  refine px_runH (h - 1) ck_8013 [(8010, Sg_8010 (f_8010 (px_tb C)))] [(2, kp_8013_2 (fun y0 y1 y2 y3 τ => y0 = x0 ∧ y1 = x1 ∧ y2 = x2 ∧ τ = σ ∧ (fun s : Int32 => ∀ (z4 : Option px_V) (z5 : Option px_V), px_W C k 2 [some (.inr (.inr (some x0))), some (.inl x1), some (.inl x2), some (.inl s), z4, z5] [] σ) y3)), (36, kp_8013_36 (fun y0 y1 y2 y3 y4 τ => y0 = x0 ∧ y1 = x1 ∧ y2 = x2 ∧ τ = σ ∧ oW (f_8013_36 (px_tb C) τ y0 y1 y2 y3 y4) (Sum.elim (fun s : Int32 => ∀ (z4 : Option px_V) (z5 : Option px_V), px_W C k 2 [some (.inr (.inr (some x0))), some (.inl x1), some (.inl x2), some (.inl s), z4, z5] [] σ) (fun r => k (some (.inl r)) σ))))] 80 6 (some .int) rfl rfl hC (px_sp1 (mf_8010 hn (by omega)) px_nosp) (by omega) (px_cut1 (kq_8013_2 (fun y0 y1 y2 y3 τ hq => by obtain ⟨rfl, rfl, rfl, rfl, hq⟩ := hq; exact hq)) (px_cut1 (kq_8013_36 (fun y0 y1 y2 y3 y4 τ hq => by obtain ⟨rfl, rfl, rfl, rfl, hq⟩ := hq; exact rl_8013_36 hn (by omega) hC  hq)) px_nocut)) (fun G Jf hG hJf => ?_)
  replace hs : oW (F_8013_2 (px_tb C) σ x0 x1 x2 x3) _ := hs
  unfold F_8013_2 at hs
  by_cases hc0 : (nI 11) ≤ x3
  · replace hs := oW_t hs hc0
    simp (implicitDefEqProofs := false) only [↓hG, ↓hJf, ↓px_vc, ↓px_ex, ↓px_jp, ↓rq_gi_0, ↓rq_gi_S, ↓rq_gl_0, ↓rq_gl_S, ↓rq_gr_0, ↓rq_gr_S, ↓rq_s1_0, ↓rq_s1_1, ↓rq_s1_S, ↓rq_s2_0, ↓rq_s2_1, ↓rq_s2_S, ↓rq_nl_n, ↓rq_nl_i, ↓rq_nl_l, ↓rq_nl_r, ↓rq_i1_s, ↓rq_l1_s, ↓r1_s, ↓rq_q1_s, ↓rq_i2_s, ↓rq_l2_s, ↓rq_il_s, ↓rq_d0_s, ↓rq_d1_i, ↓rq_d1_r, ↓rq_d2_l, ↓rq_d2_ii, ↓rq_d2_ir, ↓px_pop, ↓px_sp, ↓px_rd, ↓px_rf, ↓pn_xf, ↓rq_pt_0, ↓rq_pt_1, ↓rq_pt_2, ↓rq_pt_3, ↓px_sw, ↓pn_SW, ↓px_ma, ↓reduceIte, Nat.reduceEqDiff, Nat.reduceAdd, Nat.reduceSub, ↓Option.toList_some, ↓Option.toList_none, ↓List.cons_append, ↓List.nil_append, ↓kI_s, ↓kJ_s, ↓kN_s, ↓kO_s, ↓kZ_s, ↓kE_s, ↓an_rfl, ↓bt1 n00, ↓bt2 n00, ↓bf1 n10, ↓bf2 n10, ↓an_sz0, ↓an_sz1, ↓an_sz2, ↓an_sz3, ↓an_sz4, ↓an_ri, ↓an_rb0, ↓an_rb1, ↓an_b0, ↓an_b1, true_and, ↓ai_0s, ↓al_0s, ↓av_0s, ↓aq_0s, ↓ai_1s, ↓al_1s, ↓av_1s, ↓aq_1s, ↓ai_2s, ↓al_2s, ↓av_2s, ↓aq_2s, ↓ai_3s, ↓al_3s, ↓av_3s, ↓aq_3s, ↓ai_4s, ↓al_4s, ↓av_4s, ↓aq_4s, ↓ai_5s, ↓al_5s, ↓av_5s, ↓aq_5s, ↓ai_6s, ↓al_6s, ↓av_6s, ↓aq_6s, ↓ai_7s, ↓al_7s, ↓av_7s, ↓aq_7s, ↓an_l6, ↓bk_8013, ↓Sg_8010, ↓kp_8013_2, ↓kp_8013_36, ↓bt1 hc0, ↓bt2 hc0]
    rw [oW_some] at hs
    exact hs
  · replace hs := oW_f hs hc0
    by_cases hc1 : (x2 &&& ((nI 1) <<< (x3 &&& 31))) = nI 0
    · replace hs := bW_t hs hc1
      simp (implicitDefEqProofs := false) only [↓hG, ↓hJf, ↓px_vc, ↓px_ex, ↓px_jp, ↓rq_gi_0, ↓rq_gi_S, ↓rq_gl_0, ↓rq_gl_S, ↓rq_gr_0, ↓rq_gr_S, ↓rq_s1_0, ↓rq_s1_1, ↓rq_s1_S, ↓rq_s2_0, ↓rq_s2_1, ↓rq_s2_S, ↓rq_nl_n, ↓rq_nl_i, ↓rq_nl_l, ↓rq_nl_r, ↓rq_i1_s, ↓rq_l1_s, ↓r1_s, ↓rq_q1_s, ↓rq_i2_s, ↓rq_l2_s, ↓rq_il_s, ↓rq_d0_s, ↓rq_d1_i, ↓rq_d1_r, ↓rq_d2_l, ↓rq_d2_ii, ↓rq_d2_ir, ↓px_pop, ↓px_sp, ↓px_rd, ↓px_rf, ↓pn_xf, ↓rq_pt_0, ↓rq_pt_1, ↓rq_pt_2, ↓rq_pt_3, ↓px_sw, ↓pn_SW, ↓px_ma, ↓reduceIte, Nat.reduceEqDiff, Nat.reduceAdd, Nat.reduceSub, ↓Option.toList_some, ↓Option.toList_none, ↓List.cons_append, ↓List.nil_append, ↓kI_s, ↓kJ_s, ↓kN_s, ↓kO_s, ↓kZ_s, ↓kE_s, ↓an_rfl, ↓bt1 n00, ↓bt2 n00, ↓bf1 n10, ↓bf2 n10, ↓an_sz0, ↓an_sz1, ↓an_sz2, ↓an_sz3, ↓an_sz4, ↓an_ri, ↓an_rb0, ↓an_rb1, ↓an_b0, ↓an_b1, true_and, ↓ai_0s, ↓al_0s, ↓av_0s, ↓aq_0s, ↓ai_1s, ↓al_1s, ↓av_1s, ↓aq_1s, ↓ai_2s, ↓al_2s, ↓av_2s, ↓aq_2s, ↓ai_3s, ↓al_3s, ↓av_3s, ↓aq_3s, ↓ai_4s, ↓al_4s, ↓av_4s, ↓aq_4s, ↓ai_5s, ↓al_5s, ↓av_5s, ↓aq_5s, ↓ai_6s, ↓al_6s, ↓av_6s, ↓aq_6s, ↓ai_7s, ↓al_7s, ↓av_7s, ↓aq_7s, ↓an_l6, ↓bk_8013, ↓Sg_8010, ↓kp_8013_2, ↓kp_8013_36, ↓bf1 hc0, ↓bf2 hc0, ↓bt1 hc1, ↓bt2 hc1]
      rw [oW_some] at hs
      exact hs
    · replace hs := bW_f hs hc1
      obtain ⟨hc2, hs⟩ := oW_gx hs
      obtain ⟨r1, hc3, hs⟩ := oW_bx hs
      simp (implicitDefEqProofs := false) only [↓hG, ↓hJf, ↓px_vc, ↓px_ex, ↓px_jp, ↓rq_gi_0, ↓rq_gi_S, ↓rq_gl_0, ↓rq_gl_S, ↓rq_gr_0, ↓rq_gr_S, ↓rq_s1_0, ↓rq_s1_1, ↓rq_s1_S, ↓rq_s2_0, ↓rq_s2_1, ↓rq_s2_S, ↓rq_nl_n, ↓rq_nl_i, ↓rq_nl_l, ↓rq_nl_r, ↓rq_i1_s, ↓rq_l1_s, ↓r1_s, ↓rq_q1_s, ↓rq_i2_s, ↓rq_l2_s, ↓rq_il_s, ↓rq_d0_s, ↓rq_d1_i, ↓rq_d1_r, ↓rq_d2_l, ↓rq_d2_ii, ↓rq_d2_ir, ↓px_pop, ↓px_sp, ↓px_rd, ↓px_rf, ↓pn_xf, ↓rq_pt_0, ↓rq_pt_1, ↓rq_pt_2, ↓rq_pt_3, ↓px_sw, ↓pn_SW, ↓px_ma, ↓reduceIte, Nat.reduceEqDiff, Nat.reduceAdd, Nat.reduceSub, ↓Option.toList_some, ↓Option.toList_none, ↓List.cons_append, ↓List.nil_append, ↓kI_s, ↓kJ_s, ↓kN_s, ↓kO_s, ↓kZ_s, ↓kE_s, ↓an_rfl, ↓bt1 n00, ↓bt2 n00, ↓bf1 n10, ↓bf2 n10, ↓an_sz0, ↓an_sz1, ↓an_sz2, ↓an_sz3, ↓an_sz4, ↓an_ri, ↓an_rb0, ↓an_rb1, ↓an_b0, ↓an_b1, true_and, ↓ai_0s, ↓al_0s, ↓av_0s, ↓aq_0s, ↓ai_1s, ↓al_1s, ↓av_1s, ↓aq_1s, ↓ai_2s, ↓al_2s, ↓av_2s, ↓aq_2s, ↓ai_3s, ↓al_3s, ↓av_3s, ↓aq_3s, ↓ai_4s, ↓al_4s, ↓av_4s, ↓aq_4s, ↓ai_5s, ↓al_5s, ↓av_5s, ↓aq_5s, ↓ai_6s, ↓al_6s, ↓av_6s, ↓aq_6s, ↓ai_7s, ↓al_7s, ↓av_7s, ↓aq_7s, ↓an_l6, ↓bk_8013, ↓Sg_8010, ↓kp_8013_2, ↓kp_8013_36, ↓bf1 hc0, ↓bf2 hc0, ↓bf1 hc1, ↓bf2 hc1, ↓an_t hc2, ↓an_rv hc2, ↓oW_e hc3]
      exact hs
set_option maxHeartbeats 4000000 in
set_option maxRecDepth 100000 in
theorem mf_8013 {tab : px_T} (hn : px_nd tab) {h : Nat} (hh : 2 ≤ h) : px_Ok tab pn_i8013 h (Sg_8013 (f_8013 tab)) := by
  refine px_mth hn (by decide +kernel) (fun av σ k hS => ?_) (fun C hT hC av σ k hS => ?_)
  · obtain ⟨x0, av0, e0, h0⟩ := av_0p hS
    obtain ⟨x1, av1, e1, h1⟩ := ai_1p h0
    obtain ⟨x2, av2, e2, h2⟩ := ai_2p h1
    obtain ⟨ez, hs⟩ := h2
    subst ez
    subst e2
    subst e1
    subst e0
    exact Nat.le_of_ble_eq_true rfl
  · obtain ⟨x0, av0, e0, h0⟩ := av_0p hS
    obtain ⟨x1, av1, e1, h1⟩ := ai_1p h0
    obtain ⟨x2, av2, e2, h2⟩ := ai_2p h1
    obtain ⟨ez, hs⟩ := h2
    subst ez
    subst e2
    subst e1
    subst e0
    subst hT
    show px_W C k 0 [some (.inr (.inr (some x0))), some (.inl x1), some (.inl x2), none, none, none] [] σ
    refine px_runH (h - 1) ck_8013 [] [(2, kp_8013_2 (fun y0 y1 y2 y3 τ => τ = σ ∧ oW (f_8013_2 (px_tb C) τ y0 y1 y2 y3) (fun r => k (some (.inl r)) σ)))] 80 6 (some .int) rfl rfl hC px_nosp (by omega) (px_cut1 (kq_8013_2 (fun y0 y1 y2 y3 τ hq => by obtain ⟨rfl, hq⟩ := hq; exact rl_8013_2 hn (by omega) hC y3 hq)) px_nocut) (fun G Jf hG hJf => ?_)
    unfold f_8013 at hs
    simp (implicitDefEqProofs := false) only [↓hG, ↓hJf, ↓px_vc, ↓px_ex, ↓px_jp, ↓rq_gi_0, ↓rq_gi_S, ↓rq_gl_0, ↓rq_gl_S, ↓rq_gr_0, ↓rq_gr_S, ↓rq_s1_0, ↓rq_s1_1, ↓rq_s1_S, ↓rq_s2_0, ↓rq_s2_1, ↓rq_s2_S, ↓rq_nl_n, ↓rq_nl_i, ↓rq_nl_l, ↓rq_nl_r, ↓rq_i1_s, ↓rq_l1_s, ↓r1_s, ↓rq_q1_s, ↓rq_i2_s, ↓rq_l2_s, ↓rq_il_s, ↓rq_d0_s, ↓rq_d1_i, ↓rq_d1_r, ↓rq_d2_l, ↓rq_d2_ii, ↓rq_d2_ir, ↓px_pop, ↓px_sp, ↓px_rd, ↓px_rf, ↓pn_xf, ↓rq_pt_0, ↓rq_pt_1, ↓rq_pt_2, ↓rq_pt_3, ↓px_sw, ↓pn_SW, ↓px_ma, ↓reduceIte, Nat.reduceEqDiff, Nat.reduceAdd, Nat.reduceSub, ↓Option.toList_some, ↓Option.toList_none, ↓List.cons_append, ↓List.nil_append, ↓kI_s, ↓kJ_s, ↓kN_s, ↓kO_s, ↓kZ_s, ↓kE_s, ↓an_rfl, ↓bt1 n00, ↓bt2 n00, ↓bf1 n10, ↓bf2 n10, ↓an_sz0, ↓an_sz1, ↓an_sz2, ↓an_sz3, ↓an_sz4, ↓an_ri, ↓an_rb0, ↓an_rb1, ↓an_b0, ↓an_b1, true_and, ↓ai_0s, ↓al_0s, ↓av_0s, ↓aq_0s, ↓ai_1s, ↓al_1s, ↓av_1s, ↓aq_1s, ↓ai_2s, ↓al_2s, ↓av_2s, ↓aq_2s, ↓ai_3s, ↓al_3s, ↓av_3s, ↓aq_3s, ↓ai_4s, ↓al_4s, ↓av_4s, ↓aq_4s, ↓ai_5s, ↓al_5s, ↓av_5s, ↓aq_5s, ↓ai_6s, ↓al_6s, ↓av_6s, ↓aq_6s, ↓ai_7s, ↓al_7s, ↓av_7s, ↓aq_7s, ↓an_l6, ↓bk_8013, ↓kp_8013_2]
    exact hs
def Sg_8012 (g : px_M → Nat → Int32 → Int32 → Option (Int32)) : px_S := fun av σ k => av_0 av (fun x0 av => ai_1 av (fun x1 av => ai_2 av (fun x2 av => av = [] ∧ oW (g σ x0 x1 x2) (fun r => k (some (.inl r)) σ))))
/-- NoThree$Painter.leastLoose(II)I -/
noncomputable def f_8012_73 (tab : px_T) (σ : px_M) (x0 : Nat) (x1 : Int32) (x2 : Int32) (x3 : Int32) (x4 : Int32) (x5 : Int32) : Option ((Int32 × Int32 × Int32) ⊕ (Int32)) := some (.inl ((x3, x4, (x5 + (nI 1)))))
noncomputable def f_8012_39 (tab : px_T) (σ : px_M) (x0 : Nat) (x1 : Int32) (x2 : Int32) (x3 : Int32) (x4 : Int32) (x5 : Int32) (x6 : Int32) : Option ((Int32 × Int32 × Int32) ⊕ (Int32)) := gd (px_obj (px_lay tab x0) 8) ((f_8013 tab σ x0 x1 x6).bind fun r1 => bn (r1 = (-1)) ((f_21000 tab σ x6).bind fun r2 => if x4 ≤ r2 then (f_8012_73 tab σ x0 x1 x2 x3 x4 x5) else (f_8012_73 tab σ x0 x1 x2 x5 r2 x5)) (some (.inr (x5))))
noncomputable def F_8012_9 (tab : px_T) (σ : px_M) (x0 : Nat) (x1 : Int32) (x2 : Int32) (x3 : Int32) (x4 : Int32) (x5 : Int32) : Option ((Int32 × Int32 × Int32) ⊕ (Int32)) := if (nI 11) ≤ x5 then (some (.inr (x3))) else (bn ((x2 &&& ((nI 1) <<< (x5 &&& 31))) = nI 0) (gd (px_obj (px_lay tab x0) 8) ((f_8010 tab σ x0 x1 x5).bind fun r1 => f_8012_39 tab σ x0 x1 x2 x3 x4 x5 ((r1 &&& x2)))) (f_8012_73 tab σ x0 x1 x2 x3 x4 x5))
noncomputable def f_8012_9 (tab : px_T) (σ : px_M) (x0 : Nat) (x1 : Int32) (x2 : Int32) (x3 : Int32) (x4 : Int32) (x5 : Int32) : Option (Int32) := lpO (fun s : Int32 × Int32 × Int32 => F_8012_9 tab σ x0 x1 x2 s.1 s.2.1 s.2.2) (x3, x4, x5)
theorem f_8012_9_eq (tab : px_T) (σ : px_M) (x0 : Nat) (x1 : Int32) (x2 : Int32) (x3 : Int32) (x4 : Int32) (x5 : Int32) : f_8012_9 tab σ x0 x1 x2 x3 x4 x5 = (F_8012_9 tab σ x0 x1 x2 x3 x4 x5).bind (Sum.elim (fun s => f_8012_9 tab σ x0 x1 x2 s.1 s.2.1 s.2.2) some) := lpO_eq _ _
noncomputable def f_8012 (tab : px_T) (σ : px_M) (x0 : Nat) (x1 : Int32) (x2 : Int32) : Option (Int32) := f_8012_9 tab σ x0 x1 x2 ((-1)) ((nI 11)) ((nI 0))
def kp_8012_73 (Q : Nat → Int32 → Int32 → Int32 → Int32 → Int32 → px_M → Prop) : px_P := fun ls st τ => st = [] ∧ kN ls (fun x0 ls => kI ls (fun x1 ls => kI ls (fun x2 ls => kI ls (fun x3 ls => kI ls (fun x4 ls => kI ls (fun x5 ls => kZ ls (fun ls => kE ls (Q x0 x1 x2 x3 x4 x5 τ))))))))
theorem kq_8012_73 {C : px_C} {k : Option px_V → px_M → Prop} {Q : Nat → Int32 → Int32 → Int32 → Int32 → Int32 → px_M → Prop} (H : ∀ (x0 : Nat) (x1 : Int32) (x2 : Int32) (x3 : Int32) (x4 : Int32) (x5 : Int32) (τ : px_M), Q x0 x1 x2 x3 x4 x5 τ → ∀ (z6 : Option px_V), px_W C k 73 [some (.inr (.inr (some x0))), some (.inl x1), some (.inl x2), some (.inl x3), some (.inl x4), some (.inl x5), z6] [] τ) : ∀ ls st τ, kp_8012_73 Q ls st τ → px_W C k 73 ls st τ := by
  intro ls st τ hz
  obtain ⟨ez, h0⟩ := hz
  obtain ⟨x0, l0, e0, h1⟩ := kN_sp h0
  obtain ⟨x1, l1, e1, h2⟩ := kI_sp h1
  obtain ⟨x2, l2, e2, h3⟩ := kI_sp h2
  obtain ⟨x3, l3, e3, h4⟩ := kI_sp h3
  obtain ⟨x4, l4, e4, h5⟩ := kI_sp h4
  obtain ⟨x5, l5, e5, h6⟩ := kI_sp h5
  obtain ⟨z6, l6, e6, h7⟩ := kZ_sp h6
  obtain ⟨ey, hy⟩ := kE_sp h7
  subst ez
  subst ey
  subst e6
  subst e5
  subst e4
  subst e3
  subst e2
  subst e1
  subst e0
  exact H x0 x1 x2 x3 x4 x5 τ hy z6
def kp_8012_39 (Q : Nat → Int32 → Int32 → Int32 → Int32 → Int32 → Int32 → px_M → Prop) : px_P := fun ls st τ => st = [] ∧ kN ls (fun x0 ls => kI ls (fun x1 ls => kI ls (fun x2 ls => kI ls (fun x3 ls => kI ls (fun x4 ls => kI ls (fun x5 ls => kI ls (fun x6 ls => kE ls (Q x0 x1 x2 x3 x4 x5 x6 τ))))))))
theorem kq_8012_39 {C : px_C} {k : Option px_V → px_M → Prop} {Q : Nat → Int32 → Int32 → Int32 → Int32 → Int32 → Int32 → px_M → Prop} (H : ∀ (x0 : Nat) (x1 : Int32) (x2 : Int32) (x3 : Int32) (x4 : Int32) (x5 : Int32) (x6 : Int32) (τ : px_M), Q x0 x1 x2 x3 x4 x5 x6 τ → px_W C k 39 [some (.inr (.inr (some x0))), some (.inl x1), some (.inl x2), some (.inl x3), some (.inl x4), some (.inl x5), some (.inl x6)] [] τ) : ∀ ls st τ, kp_8012_39 Q ls st τ → px_W C k 39 ls st τ := by
  intro ls st τ hz
  obtain ⟨ez, h0⟩ := hz
  obtain ⟨x0, l0, e0, h1⟩ := kN_sp h0
  obtain ⟨x1, l1, e1, h2⟩ := kI_sp h1
  obtain ⟨x2, l2, e2, h3⟩ := kI_sp h2
  obtain ⟨x3, l3, e3, h4⟩ := kI_sp h3
  obtain ⟨x4, l4, e4, h5⟩ := kI_sp h4
  obtain ⟨x5, l5, e5, h6⟩ := kI_sp h5
  obtain ⟨x6, l6, e6, h7⟩ := kI_sp h6
  obtain ⟨ey, hy⟩ := kE_sp h7
  subst ez
  subst ey
  subst e6
  subst e5
  subst e4
  subst e3
  subst e2
  subst e1
  subst e0
  exact H x0 x1 x2 x3 x4 x5 x6 τ hy
def kp_8012_9 (Q : Nat → Int32 → Int32 → Int32 → Int32 → Int32 → px_M → Prop) : px_P := fun ls st τ => st = [] ∧ kN ls (fun x0 ls => kI ls (fun x1 ls => kI ls (fun x2 ls => kI ls (fun x3 ls => kI ls (fun x4 ls => kI ls (fun x5 ls => kZ ls (fun ls => kE ls (Q x0 x1 x2 x3 x4 x5 τ))))))))
theorem kq_8012_9 {C : px_C} {k : Option px_V → px_M → Prop} {Q : Nat → Int32 → Int32 → Int32 → Int32 → Int32 → px_M → Prop} (H : ∀ (x0 : Nat) (x1 : Int32) (x2 : Int32) (x3 : Int32) (x4 : Int32) (x5 : Int32) (τ : px_M), Q x0 x1 x2 x3 x4 x5 τ → ∀ (z6 : Option px_V), px_W C k 9 [some (.inr (.inr (some x0))), some (.inl x1), some (.inl x2), some (.inl x3), some (.inl x4), some (.inl x5), z6] [] τ) : ∀ ls st τ, kp_8012_9 Q ls st τ → px_W C k 9 ls st τ := by
  intro ls st τ hz
  obtain ⟨ez, h0⟩ := hz
  obtain ⟨x0, l0, e0, h1⟩ := kN_sp h0
  obtain ⟨x1, l1, e1, h2⟩ := kI_sp h1
  obtain ⟨x2, l2, e2, h3⟩ := kI_sp h2
  obtain ⟨x3, l3, e3, h4⟩ := kI_sp h3
  obtain ⟨x4, l4, e4, h5⟩ := kI_sp h4
  obtain ⟨x5, l5, e5, h6⟩ := kI_sp h5
  obtain ⟨z6, l6, e6, h7⟩ := kZ_sp h6
  obtain ⟨ey, hy⟩ := kE_sp h7
  subst ez
  subst ey
  subst e6
  subst e5
  subst e4
  subst e3
  subst e2
  subst e1
  subst e0
  exact H x0 x1 x2 x3 x4 x5 τ hy z6
set_option maxHeartbeats 4000000 in
set_option maxRecDepth 100000 in
theorem rl_8012_73 {C : px_C} (hn : px_nd (px_tb C)) {h : Nat} (hh : 3 ≤ h) (hC : px_ok C pn_i8012 h) {k : Option px_V → px_M → Prop} {x0 : Nat} {x1 : Int32} {x2 : Int32} {x3 : Int32} {x4 : Int32} {x5 : Int32} {σ : px_M} (hs : oW (f_8012_73 (px_tb C) σ x0 x1 x2 x3 x4 x5) (Sum.elim (fun s : Int32 × Int32 × Int32 => ∀ (z6 : Option px_V), px_W C k 9 [some (.inr (.inr (some x0))), some (.inl x1), some (.inl x2), some (.inl s.1), some (.inl s.2.1), some (.inl s.2.2), z6] [] σ) (fun r => k (some (.inl r)) σ))) : ∀ (z6 : Option px_V), px_W C k 73 [some (.inr (.inr (some x0))), some (.inl x1), some (.inl x2), some (.inl x3), some (.inl x4), some (.inl x5), z6] [] σ := by
  intro z6
  refine px_runH (h - 1) ck_8012 [] [(9, kp_8012_9 (fun y0 y1 y2 y3 y4 y5 τ => y0 = x0 ∧ y1 = x1 ∧ y2 = x2 ∧ τ = σ ∧ (fun s : Int32 × Int32 × Int32 => ∀ (z6 : Option px_V), px_W C k 9 [some (.inr (.inr (some x0))), some (.inl x1), some (.inl x2), some (.inl s.1), some (.inl s.2.1), some (.inl s.2.2), z6] [] σ) (y3, y4, y5)))] 80 7 (some .int) rfl rfl hC px_nosp (by omega) (px_cut1 (kq_8012_9 (fun y0 y1 y2 y3 y4 y5 τ hq => by obtain ⟨rfl, rfl, rfl, rfl, hq⟩ := hq; exact hq)) px_nocut) (fun G Jf hG hJf => ?_)
  unfold f_8012_73 at hs
  simp (implicitDefEqProofs := false) only [↓hG, ↓hJf, ↓px_vc, ↓px_ex, ↓px_jp, ↓rq_gi_0, ↓rq_gi_S, ↓rq_gl_0, ↓rq_gl_S, ↓rq_gr_0, ↓rq_gr_S, ↓rq_s1_0, ↓rq_s1_1, ↓rq_s1_S, ↓rq_s2_0, ↓rq_s2_1, ↓rq_s2_S, ↓rq_nl_n, ↓rq_nl_i, ↓rq_nl_l, ↓rq_nl_r, ↓rq_i1_s, ↓rq_l1_s, ↓r1_s, ↓rq_q1_s, ↓rq_i2_s, ↓rq_l2_s, ↓rq_il_s, ↓rq_d0_s, ↓rq_d1_i, ↓rq_d1_r, ↓rq_d2_l, ↓rq_d2_ii, ↓rq_d2_ir, ↓px_pop, ↓px_sp, ↓px_rd, ↓px_rf, ↓pn_xf, ↓rq_pt_0, ↓rq_pt_1, ↓rq_pt_2, ↓rq_pt_3, ↓px_sw, ↓pn_SW, ↓px_ma, ↓reduceIte, Nat.reduceEqDiff, Nat.reduceAdd, Nat.reduceSub, ↓Option.toList_some, ↓Option.toList_none, ↓List.cons_append, ↓List.nil_append, ↓kI_s, ↓kJ_s, ↓kN_s, ↓kO_s, ↓kZ_s, ↓kE_s, ↓an_rfl, ↓bt1 n00, ↓bt2 n00, ↓bf1 n10, ↓bf2 n10, ↓an_sz0, ↓an_sz1, ↓an_sz2, ↓an_sz3, ↓an_sz4, ↓an_ri, ↓an_rb0, ↓an_rb1, ↓an_b0, ↓an_b1, true_and, ↓ai_0s, ↓al_0s, ↓av_0s, ↓aq_0s, ↓ai_1s, ↓al_1s, ↓av_1s, ↓aq_1s, ↓ai_2s, ↓al_2s, ↓av_2s, ↓aq_2s, ↓ai_3s, ↓al_3s, ↓av_3s, ↓aq_3s, ↓ai_4s, ↓al_4s, ↓av_4s, ↓aq_4s, ↓ai_5s, ↓al_5s, ↓av_5s, ↓aq_5s, ↓ai_6s, ↓al_6s, ↓av_6s, ↓aq_6s, ↓ai_7s, ↓al_7s, ↓av_7s, ↓aq_7s, ↓an_l7, ↓bk_8012, ↓kp_8012_9]
  rw [oW_some] at hs
  exact hs
set_option maxHeartbeats 4000000 in
set_option maxRecDepth 100000 in
theorem rl_8012_39 {C : px_C} (hn : px_nd (px_tb C)) {h : Nat} (hh : 3 ≤ h) (hC : px_ok C pn_i8012 h) {k : Option px_V → px_M → Prop} {x0 : Nat} {x1 : Int32} {x2 : Int32} {x3 : Int32} {x4 : Int32} {x5 : Int32} {x6 : Int32} {σ : px_M} (hs : oW (f_8012_39 (px_tb C) σ x0 x1 x2 x3 x4 x5 x6) (Sum.elim (fun s : Int32 × Int32 × Int32 => ∀ (z6 : Option px_V), px_W C k 9 [some (.inr (.inr (some x0))), some (.inl x1), some (.inl x2), some (.inl s.1), some (.inl s.2.1), some (.inl s.2.2), z6] [] σ) (fun r => k (some (.inl r)) σ))) : px_W C k 39 [some (.inr (.inr (some x0))), some (.inl x1), some (.inl x2), some (.inl x3), some (.inl x4), some (.inl x5), some (.inl x6)] [] σ := by
  refine px_runH (h - 1) ck_8012 [(8013, Sg_8013 (f_8013 (px_tb C))), (21000, Sg_21000 (f_21000 (px_tb C)))] [(73, kp_8012_73 (fun y0 y1 y2 y3 y4 y5 τ => y0 = x0 ∧ y1 = x1 ∧ y2 = x2 ∧ τ = σ ∧ oW (f_8012_73 (px_tb C) τ y0 y1 y2 y3 y4 y5) (Sum.elim (fun s : Int32 × Int32 × Int32 => ∀ (z6 : Option px_V), px_W C k 9 [some (.inr (.inr (some x0))), some (.inl x1), some (.inl x2), some (.inl s.1), some (.inl s.2.1), some (.inl s.2.2), z6] [] σ) (fun r => k (some (.inl r)) σ))))] 80 7 (some .int) rfl rfl hC (px_sp1 (mf_8013 hn (by omega)) (px_sp1 (mf_21000 hn (by omega)) px_nosp)) (by omega) (px_cut1 (kq_8012_73 (fun y0 y1 y2 y3 y4 y5 τ hq => by obtain ⟨rfl, rfl, rfl, rfl, hq⟩ := hq; exact rl_8012_73 hn (by omega) hC  hq)) px_nocut) (fun G Jf hG hJf => ?_)
  unfold f_8012_39 at hs
  obtain ⟨hc0, hs⟩ := oW_gx hs
  obtain ⟨r1, hc1, hs⟩ := oW_bx hs
  by_cases hc2 : r1 = (-1)
  · replace hs := bW_t hs hc2
    simp (implicitDefEqProofs := false) only [↓hG, ↓hJf, ↓px_vc, ↓px_ex, ↓px_jp, ↓rq_gi_0, ↓rq_gi_S, ↓rq_gl_0, ↓rq_gl_S, ↓rq_gr_0, ↓rq_gr_S, ↓rq_s1_0, ↓rq_s1_1, ↓rq_s1_S, ↓rq_s2_0, ↓rq_s2_1, ↓rq_s2_S, ↓rq_nl_n, ↓rq_nl_i, ↓rq_nl_l, ↓rq_nl_r, ↓rq_i1_s, ↓rq_l1_s, ↓r1_s, ↓rq_q1_s, ↓rq_i2_s, ↓rq_l2_s, ↓rq_il_s, ↓rq_d0_s, ↓rq_d1_i, ↓rq_d1_r, ↓rq_d2_l, ↓rq_d2_ii, ↓rq_d2_ir, ↓px_pop, ↓px_sp, ↓px_rd, ↓px_rf, ↓pn_xf, ↓rq_pt_0, ↓rq_pt_1, ↓rq_pt_2, ↓rq_pt_3, ↓px_sw, ↓pn_SW, ↓px_ma, ↓reduceIte, Nat.reduceEqDiff, Nat.reduceAdd, Nat.reduceSub, ↓Option.toList_some, ↓Option.toList_none, ↓List.cons_append, ↓List.nil_append, ↓kI_s, ↓kJ_s, ↓kN_s, ↓kO_s, ↓kZ_s, ↓kE_s, ↓an_rfl, ↓bt1 n00, ↓bt2 n00, ↓bf1 n10, ↓bf2 n10, ↓an_sz0, ↓an_sz1, ↓an_sz2, ↓an_sz3, ↓an_sz4, ↓an_ri, ↓an_rb0, ↓an_rb1, ↓an_b0, ↓an_b1, true_and, ↓ai_0s, ↓al_0s, ↓av_0s, ↓aq_0s, ↓ai_1s, ↓al_1s, ↓av_1s, ↓aq_1s, ↓ai_2s, ↓al_2s, ↓av_2s, ↓aq_2s, ↓ai_3s, ↓al_3s, ↓av_3s, ↓aq_3s, ↓ai_4s, ↓al_4s, ↓av_4s, ↓aq_4s, ↓ai_5s, ↓al_5s, ↓av_5s, ↓aq_5s, ↓ai_6s, ↓al_6s, ↓av_6s, ↓aq_6s, ↓ai_7s, ↓al_7s, ↓av_7s, ↓aq_7s, ↓an_l7, ↓bk_8012, ↓Sg_8013, ↓Sg_21000, ↓kp_8012_73, ↓an_t hc0, ↓an_rv hc0, ↓oW_e hc1, ↓bt1 hc2, ↓bt2 hc2]
    rw [oW_some] at hs
    exact hs
  · replace hs := bW_f hs hc2
    obtain ⟨r2, hc3, hs⟩ := oW_bx hs
    by_cases hc4 : x4 ≤ r2
    · replace hs := oW_t hs hc4
      simp (implicitDefEqProofs := false) only [↓hG, ↓hJf, ↓px_vc, ↓px_ex, ↓px_jp, ↓rq_gi_0, ↓rq_gi_S, ↓rq_gl_0, ↓rq_gl_S, ↓rq_gr_0, ↓rq_gr_S, ↓rq_s1_0, ↓rq_s1_1, ↓rq_s1_S, ↓rq_s2_0, ↓rq_s2_1, ↓rq_s2_S, ↓rq_nl_n, ↓rq_nl_i, ↓rq_nl_l, ↓rq_nl_r, ↓rq_i1_s, ↓rq_l1_s, ↓r1_s, ↓rq_q1_s, ↓rq_i2_s, ↓rq_l2_s, ↓rq_il_s, ↓rq_d0_s, ↓rq_d1_i, ↓rq_d1_r, ↓rq_d2_l, ↓rq_d2_ii, ↓rq_d2_ir, ↓px_pop, ↓px_sp, ↓px_rd, ↓px_rf, ↓pn_xf, ↓rq_pt_0, ↓rq_pt_1, ↓rq_pt_2, ↓rq_pt_3, ↓px_sw, ↓pn_SW, ↓px_ma, ↓reduceIte, Nat.reduceEqDiff, Nat.reduceAdd, Nat.reduceSub, ↓Option.toList_some, ↓Option.toList_none, ↓List.cons_append, ↓List.nil_append, ↓kI_s, ↓kJ_s, ↓kN_s, ↓kO_s, ↓kZ_s, ↓kE_s, ↓an_rfl, ↓bt1 n00, ↓bt2 n00, ↓bf1 n10, ↓bf2 n10, ↓an_sz0, ↓an_sz1, ↓an_sz2, ↓an_sz3, ↓an_sz4, ↓an_ri, ↓an_rb0, ↓an_rb1, ↓an_b0, ↓an_b1, true_and, ↓ai_0s, ↓al_0s, ↓av_0s, ↓aq_0s, ↓ai_1s, ↓al_1s, ↓av_1s, ↓aq_1s, ↓ai_2s, ↓al_2s, ↓av_2s, ↓aq_2s, ↓ai_3s, ↓al_3s, ↓av_3s, ↓aq_3s, ↓ai_4s, ↓al_4s, ↓av_4s, ↓aq_4s, ↓ai_5s, ↓al_5s, ↓av_5s, ↓aq_5s, ↓ai_6s, ↓al_6s, ↓av_6s, ↓aq_6s, ↓ai_7s, ↓al_7s, ↓av_7s, ↓aq_7s, ↓an_l7, ↓bk_8012, ↓Sg_8013, ↓Sg_21000, ↓kp_8012_73, ↓an_t hc0, ↓an_rv hc0, ↓oW_e hc1, ↓bf1 hc2, ↓bf2 hc2, ↓oW_e hc3, ↓bt1 hc4, ↓bt2 hc4]
      exact hs
    · replace hs := oW_f hs hc4
      simp (implicitDefEqProofs := false) only [↓hG, ↓hJf, ↓px_vc, ↓px_ex, ↓px_jp, ↓rq_gi_0, ↓rq_gi_S, ↓rq_gl_0, ↓rq_gl_S, ↓rq_gr_0, ↓rq_gr_S, ↓rq_s1_0, ↓rq_s1_1, ↓rq_s1_S, ↓rq_s2_0, ↓rq_s2_1, ↓rq_s2_S, ↓rq_nl_n, ↓rq_nl_i, ↓rq_nl_l, ↓rq_nl_r, ↓rq_i1_s, ↓rq_l1_s, ↓r1_s, ↓rq_q1_s, ↓rq_i2_s, ↓rq_l2_s, ↓rq_il_s, ↓rq_d0_s, ↓rq_d1_i, ↓rq_d1_r, ↓rq_d2_l, ↓rq_d2_ii, ↓rq_d2_ir, ↓px_pop, ↓px_sp, ↓px_rd, ↓px_rf, ↓pn_xf, ↓rq_pt_0, ↓rq_pt_1, ↓rq_pt_2, ↓rq_pt_3, ↓px_sw, ↓pn_SW, ↓px_ma, ↓reduceIte, Nat.reduceEqDiff, Nat.reduceAdd, Nat.reduceSub, ↓Option.toList_some, ↓Option.toList_none, ↓List.cons_append, ↓List.nil_append, ↓kI_s, ↓kJ_s, ↓kN_s, ↓kO_s, ↓kZ_s, ↓kE_s, ↓an_rfl, ↓bt1 n00, ↓bt2 n00, ↓bf1 n10, ↓bf2 n10, ↓an_sz0, ↓an_sz1, ↓an_sz2, ↓an_sz3, ↓an_sz4, ↓an_ri, ↓an_rb0, ↓an_rb1, ↓an_b0, ↓an_b1, true_and, ↓ai_0s, ↓al_0s, ↓av_0s, ↓aq_0s, ↓ai_1s, ↓al_1s, ↓av_1s, ↓aq_1s, ↓ai_2s, ↓al_2s, ↓av_2s, ↓aq_2s, ↓ai_3s, ↓al_3s, ↓av_3s, ↓aq_3s, ↓ai_4s, ↓al_4s, ↓av_4s, ↓aq_4s, ↓ai_5s, ↓al_5s, ↓av_5s, ↓aq_5s, ↓ai_6s, ↓al_6s, ↓av_6s, ↓aq_6s, ↓ai_7s, ↓al_7s, ↓av_7s, ↓aq_7s, ↓an_l7, ↓bk_8012, ↓Sg_8013, ↓Sg_21000, ↓kp_8012_73, ↓an_t hc0, ↓an_rv hc0, ↓oW_e hc1, ↓bf1 hc2, ↓bf2 hc2, ↓oW_e hc3, ↓bf1 hc4, ↓bf2 hc4]
      exact hs
set_option maxHeartbeats 4000000 in
set_option maxRecDepth 100000 in
theorem rl_8012_9 {C : px_C} (hn : px_nd (px_tb C)) {h : Nat} (hh : 3 ≤ h) (hC : px_ok C pn_i8012 h) {k : Option px_V → px_M → Prop} {x0 : Nat} {x1 : Int32} {x2 : Int32} {σ : px_M} : ∀ s : Int32 × Int32 × Int32, oW (f_8012_9 (px_tb C) σ x0 x1 x2 s.1 s.2.1 s.2.2) (fun r => k (some (.inl r)) σ) → (fun s : Int32 × Int32 × Int32 => ∀ (z6 : Option px_V), px_W C k 9 [some (.inr (.inr (some x0))), some (.inl x1), some (.inl x2), some (.inl s.1), some (.inl s.2.1), some (.inl s.2.2), z6] [] σ) s := by
  intro s h0
  refine lpO_sound (P := (fun s : Int32 × Int32 × Int32 => ∀ (z6 : Option px_V), px_W C k 9 [some (.inr (.inr (some x0))), some (.inl x1), some (.inl x2), some (.inl s.1), some (.inl s.2.1), some (.inl s.2.2), z6] [] σ)) (fun s hs => ?_) h0
  obtain ⟨x3, x4, x5⟩ := s
  intro z6
  refine px_runH (h - 1) ck_8012 [(8010, Sg_8010 (f_8010 (px_tb C)))] [(39, kp_8012_39 (fun y0 y1 y2 y3 y4 y5 y6 τ => y0 = x0 ∧ y1 = x1 ∧ y2 = x2 ∧ τ = σ ∧ oW (f_8012_39 (px_tb C) τ y0 y1 y2 y3 y4 y5 y6) (Sum.elim (fun s : Int32 × Int32 × Int32 => ∀ (z6 : Option px_V), px_W C k 9 [some (.inr (.inr (some x0))), some (.inl x1), some (.inl x2), some (.inl s.1), some (.inl s.2.1), some (.inl s.2.2), z6] [] σ) (fun r => k (some (.inl r)) σ)))), (73, kp_8012_73 (fun y0 y1 y2 y3 y4 y5 τ => y0 = x0 ∧ y1 = x1 ∧ y2 = x2 ∧ τ = σ ∧ oW (f_8012_73 (px_tb C) τ y0 y1 y2 y3 y4 y5) (Sum.elim (fun s : Int32 × Int32 × Int32 => ∀ (z6 : Option px_V), px_W C k 9 [some (.inr (.inr (some x0))), some (.inl x1), some (.inl x2), some (.inl s.1), some (.inl s.2.1), some (.inl s.2.2), z6] [] σ) (fun r => k (some (.inl r)) σ))))] 80 7 (some .int) rfl rfl hC (px_sp1 (mf_8010 hn (by omega)) px_nosp) (by omega) (px_cut1 (kq_8012_39 (fun y0 y1 y2 y3 y4 y5 y6 τ hq => by obtain ⟨rfl, rfl, rfl, rfl, hq⟩ := hq; exact rl_8012_39 hn (by omega) hC  hq)) (px_cut1 (kq_8012_73 (fun y0 y1 y2 y3 y4 y5 τ hq => by obtain ⟨rfl, rfl, rfl, rfl, hq⟩ := hq; exact rl_8012_73 hn (by omega) hC  hq)) px_nocut)) (fun G Jf hG hJf => ?_)
  replace hs : oW (F_8012_9 (px_tb C) σ x0 x1 x2 x3 x4 x5) _ := hs
  unfold F_8012_9 at hs
  by_cases hc0 : (nI 11) ≤ x5
  · replace hs := oW_t hs hc0
    simp (implicitDefEqProofs := false) only [↓hG, ↓hJf, ↓px_vc, ↓px_ex, ↓px_jp, ↓rq_gi_0, ↓rq_gi_S, ↓rq_gl_0, ↓rq_gl_S, ↓rq_gr_0, ↓rq_gr_S, ↓rq_s1_0, ↓rq_s1_1, ↓rq_s1_S, ↓rq_s2_0, ↓rq_s2_1, ↓rq_s2_S, ↓rq_nl_n, ↓rq_nl_i, ↓rq_nl_l, ↓rq_nl_r, ↓rq_i1_s, ↓rq_l1_s, ↓r1_s, ↓rq_q1_s, ↓rq_i2_s, ↓rq_l2_s, ↓rq_il_s, ↓rq_d0_s, ↓rq_d1_i, ↓rq_d1_r, ↓rq_d2_l, ↓rq_d2_ii, ↓rq_d2_ir, ↓px_pop, ↓px_sp, ↓px_rd, ↓px_rf, ↓pn_xf, ↓rq_pt_0, ↓rq_pt_1, ↓rq_pt_2, ↓rq_pt_3, ↓px_sw, ↓pn_SW, ↓px_ma, ↓reduceIte, Nat.reduceEqDiff, Nat.reduceAdd, Nat.reduceSub, ↓Option.toList_some, ↓Option.toList_none, ↓List.cons_append, ↓List.nil_append, ↓kI_s, ↓kJ_s, ↓kN_s, ↓kO_s, ↓kZ_s, ↓kE_s, ↓an_rfl, ↓bt1 n00, ↓bt2 n00, ↓bf1 n10, ↓bf2 n10, ↓an_sz0, ↓an_sz1, ↓an_sz2, ↓an_sz3, ↓an_sz4, ↓an_ri, ↓an_rb0, ↓an_rb1, ↓an_b0, ↓an_b1, true_and, ↓ai_0s, ↓al_0s, ↓av_0s, ↓aq_0s, ↓ai_1s, ↓al_1s, ↓av_1s, ↓aq_1s, ↓ai_2s, ↓al_2s, ↓av_2s, ↓aq_2s, ↓ai_3s, ↓al_3s, ↓av_3s, ↓aq_3s, ↓ai_4s, ↓al_4s, ↓av_4s, ↓aq_4s, ↓ai_5s, ↓al_5s, ↓av_5s, ↓aq_5s, ↓ai_6s, ↓al_6s, ↓av_6s, ↓aq_6s, ↓ai_7s, ↓al_7s, ↓av_7s, ↓aq_7s, ↓an_l7, ↓bk_8012, ↓Sg_8010, ↓kp_8012_39, ↓kp_8012_73, ↓bt1 hc0, ↓bt2 hc0]
    rw [oW_some] at hs
    exact hs
  · replace hs := oW_f hs hc0
    by_cases hc1 : (x2 &&& ((nI 1) <<< (x5 &&& 31))) = nI 0
    · replace hs := bW_t hs hc1
      simp (implicitDefEqProofs := false) only [↓hG, ↓hJf, ↓px_vc, ↓px_ex, ↓px_jp, ↓rq_gi_0, ↓rq_gi_S, ↓rq_gl_0, ↓rq_gl_S, ↓rq_gr_0, ↓rq_gr_S, ↓rq_s1_0, ↓rq_s1_1, ↓rq_s1_S, ↓rq_s2_0, ↓rq_s2_1, ↓rq_s2_S, ↓rq_nl_n, ↓rq_nl_i, ↓rq_nl_l, ↓rq_nl_r, ↓rq_i1_s, ↓rq_l1_s, ↓r1_s, ↓rq_q1_s, ↓rq_i2_s, ↓rq_l2_s, ↓rq_il_s, ↓rq_d0_s, ↓rq_d1_i, ↓rq_d1_r, ↓rq_d2_l, ↓rq_d2_ii, ↓rq_d2_ir, ↓px_pop, ↓px_sp, ↓px_rd, ↓px_rf, ↓pn_xf, ↓rq_pt_0, ↓rq_pt_1, ↓rq_pt_2, ↓rq_pt_3, ↓px_sw, ↓pn_SW, ↓px_ma, ↓reduceIte, Nat.reduceEqDiff, Nat.reduceAdd, Nat.reduceSub, ↓Option.toList_some, ↓Option.toList_none, ↓List.cons_append, ↓List.nil_append, ↓kI_s, ↓kJ_s, ↓kN_s, ↓kO_s, ↓kZ_s, ↓kE_s, ↓an_rfl, ↓bt1 n00, ↓bt2 n00, ↓bf1 n10, ↓bf2 n10, ↓an_sz0, ↓an_sz1, ↓an_sz2, ↓an_sz3, ↓an_sz4, ↓an_ri, ↓an_rb0, ↓an_rb1, ↓an_b0, ↓an_b1, true_and, ↓ai_0s, ↓al_0s, ↓av_0s, ↓aq_0s, ↓ai_1s, ↓al_1s, ↓av_1s, ↓aq_1s, ↓ai_2s, ↓al_2s, ↓av_2s, ↓aq_2s, ↓ai_3s, ↓al_3s, ↓av_3s, ↓aq_3s, ↓ai_4s, ↓al_4s, ↓av_4s, ↓aq_4s, ↓ai_5s, ↓al_5s, ↓av_5s, ↓aq_5s, ↓ai_6s, ↓al_6s, ↓av_6s, ↓aq_6s, ↓ai_7s, ↓al_7s, ↓av_7s, ↓aq_7s, ↓an_l7, ↓bk_8012, ↓Sg_8010, ↓kp_8012_39, ↓kp_8012_73, ↓bf1 hc0, ↓bf2 hc0, ↓bt1 hc1, ↓bt2 hc1]
      exact hs
    · replace hs := bW_f hs hc1
      obtain ⟨hc2, hs⟩ := oW_gx hs
      obtain ⟨r1, hc3, hs⟩ := oW_bx hs
      simp (implicitDefEqProofs := false) only [↓hG, ↓hJf, ↓px_vc, ↓px_ex, ↓px_jp, ↓rq_gi_0, ↓rq_gi_S, ↓rq_gl_0, ↓rq_gl_S, ↓rq_gr_0, ↓rq_gr_S, ↓rq_s1_0, ↓rq_s1_1, ↓rq_s1_S, ↓rq_s2_0, ↓rq_s2_1, ↓rq_s2_S, ↓rq_nl_n, ↓rq_nl_i, ↓rq_nl_l, ↓rq_nl_r, ↓rq_i1_s, ↓rq_l1_s, ↓r1_s, ↓rq_q1_s, ↓rq_i2_s, ↓rq_l2_s, ↓rq_il_s, ↓rq_d0_s, ↓rq_d1_i, ↓rq_d1_r, ↓rq_d2_l, ↓rq_d2_ii, ↓rq_d2_ir, ↓px_pop, ↓px_sp, ↓px_rd, ↓px_rf, ↓pn_xf, ↓rq_pt_0, ↓rq_pt_1, ↓rq_pt_2, ↓rq_pt_3, ↓px_sw, ↓pn_SW, ↓px_ma, ↓reduceIte, Nat.reduceEqDiff, Nat.reduceAdd, Nat.reduceSub, ↓Option.toList_some, ↓Option.toList_none, ↓List.cons_append, ↓List.nil_append, ↓kI_s, ↓kJ_s, ↓kN_s, ↓kO_s, ↓kZ_s, ↓kE_s, ↓an_rfl, ↓bt1 n00, ↓bt2 n00, ↓bf1 n10, ↓bf2 n10, ↓an_sz0, ↓an_sz1, ↓an_sz2, ↓an_sz3, ↓an_sz4, ↓an_ri, ↓an_rb0, ↓an_rb1, ↓an_b0, ↓an_b1, true_and, ↓ai_0s, ↓al_0s, ↓av_0s, ↓aq_0s, ↓ai_1s, ↓al_1s, ↓av_1s, ↓aq_1s, ↓ai_2s, ↓al_2s, ↓av_2s, ↓aq_2s, ↓ai_3s, ↓al_3s, ↓av_3s, ↓aq_3s, ↓ai_4s, ↓al_4s, ↓av_4s, ↓aq_4s, ↓ai_5s, ↓al_5s, ↓av_5s, ↓aq_5s, ↓ai_6s, ↓al_6s, ↓av_6s, ↓aq_6s, ↓ai_7s, ↓al_7s, ↓av_7s, ↓aq_7s, ↓an_l7, ↓bk_8012, ↓Sg_8010, ↓kp_8012_39, ↓kp_8012_73, ↓bf1 hc0, ↓bf2 hc0, ↓bf1 hc1, ↓bf2 hc1, ↓an_t hc2, ↓an_rv hc2, ↓oW_e hc3]
      exact hs
set_option maxHeartbeats 4000000 in
set_option maxRecDepth 100000 in
theorem mf_8012 {tab : px_T} (hn : px_nd tab) {h : Nat} (hh : 3 ≤ h) : px_Ok tab pn_i8012 h (Sg_8012 (f_8012 tab)) := by
  refine px_mth hn (by decide +kernel) (fun av σ k hS => ?_) (fun C hT hC av σ k hS => ?_)
  · obtain ⟨x0, av0, e0, h0⟩ := av_0p hS
    obtain ⟨x1, av1, e1, h1⟩ := ai_1p h0
    obtain ⟨x2, av2, e2, h2⟩ := ai_2p h1
    obtain ⟨ez, hs⟩ := h2
    subst ez
    subst e2
    subst e1
    subst e0
    exact Nat.le_of_ble_eq_true rfl
  · obtain ⟨x0, av0, e0, h0⟩ := av_0p hS
    obtain ⟨x1, av1, e1, h1⟩ := ai_1p h0
    obtain ⟨x2, av2, e2, h2⟩ := ai_2p h1
    obtain ⟨ez, hs⟩ := h2
    subst ez
    subst e2
    subst e1
    subst e0
    subst hT
    show px_W C k 0 [some (.inr (.inr (some x0))), some (.inl x1), some (.inl x2), none, none, none, none] [] σ
    refine px_runH (h - 1) ck_8012 [] [(9, kp_8012_9 (fun y0 y1 y2 y3 y4 y5 τ => τ = σ ∧ oW (f_8012_9 (px_tb C) τ y0 y1 y2 y3 y4 y5) (fun r => k (some (.inl r)) σ)))] 80 7 (some .int) rfl rfl hC px_nosp (by omega) (px_cut1 (kq_8012_9 (fun y0 y1 y2 y3 y4 y5 τ hq => by obtain ⟨rfl, hq⟩ := hq; exact rl_8012_9 hn (by omega) hC (y3, y4, y5) hq)) px_nocut) (fun G Jf hG hJf => ?_)
    unfold f_8012 at hs
    simp (implicitDefEqProofs := false) only [↓hG, ↓hJf, ↓px_vc, ↓px_ex, ↓px_jp, ↓rq_gi_0, ↓rq_gi_S, ↓rq_gl_0, ↓rq_gl_S, ↓rq_gr_0, ↓rq_gr_S, ↓rq_s1_0, ↓rq_s1_1, ↓rq_s1_S, ↓rq_s2_0, ↓rq_s2_1, ↓rq_s2_S, ↓rq_nl_n, ↓rq_nl_i, ↓rq_nl_l, ↓rq_nl_r, ↓rq_i1_s, ↓rq_l1_s, ↓r1_s, ↓rq_q1_s, ↓rq_i2_s, ↓rq_l2_s, ↓rq_il_s, ↓rq_d0_s, ↓rq_d1_i, ↓rq_d1_r, ↓rq_d2_l, ↓rq_d2_ii, ↓rq_d2_ir, ↓px_pop, ↓px_sp, ↓px_rd, ↓px_rf, ↓pn_xf, ↓rq_pt_0, ↓rq_pt_1, ↓rq_pt_2, ↓rq_pt_3, ↓px_sw, ↓pn_SW, ↓px_ma, ↓reduceIte, Nat.reduceEqDiff, Nat.reduceAdd, Nat.reduceSub, ↓Option.toList_some, ↓Option.toList_none, ↓List.cons_append, ↓List.nil_append, ↓kI_s, ↓kJ_s, ↓kN_s, ↓kO_s, ↓kZ_s, ↓kE_s, ↓an_rfl, ↓bt1 n00, ↓bt2 n00, ↓bf1 n10, ↓bf2 n10, ↓an_sz0, ↓an_sz1, ↓an_sz2, ↓an_sz3, ↓an_sz4, ↓an_ri, ↓an_rb0, ↓an_rb1, ↓an_b0, ↓an_b1, true_and, ↓ai_0s, ↓al_0s, ↓av_0s, ↓aq_0s, ↓ai_1s, ↓al_1s, ↓av_1s, ↓aq_1s, ↓ai_2s, ↓al_2s, ↓av_2s, ↓aq_2s, ↓ai_3s, ↓al_3s, ↓av_3s, ↓aq_3s, ↓ai_4s, ↓al_4s, ↓av_4s, ↓aq_4s, ↓ai_5s, ↓al_5s, ↓av_5s, ↓aq_5s, ↓ai_6s, ↓al_6s, ↓av_6s, ↓aq_6s, ↓ai_7s, ↓al_7s, ↓av_7s, ↓aq_7s, ↓an_l7, ↓bk_8012, ↓kp_8012_9]
    exact hs
