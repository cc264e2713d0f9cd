/-! shallow functions, printed by wip/whole/decomp.py -/
def Sg_8014 (g : px_M → Nat → Int32 → Int32 → Int32 → Option (px_M)) : px_S := fun av σ k => av_0 av (fun x0 av => ai_1 av (fun x1 av => ai_2 av (fun x2 av => ai_3 av (fun x3 av => av = [] ∧ oW (g σ x0 x1 x2 x3) (fun τ => k none τ)))))
/-- NoThree$Painter.mergeAbove(III)V -/
noncomputable def f_8014_64 (tab : px_T) (σ : px_M) (x0 : Nat) (x1 : Int32) (x2 : Int32) (x4 : Int32) (x5 : Int32) : Option ((Int32 × px_M) ⊕ (px_M)) := some (.inl (((x5 + (nI 1)), σ)))
noncomputable def F_8014_18 (tab : px_T) (x0 : Nat) (x1 : Int32) (x2 : Int32) (x4 : Int32) (x5 : Int32) (σ : px_M) : Option ((Int32 × px_M) ⊕ (px_M)) := if (nI 11) ≤ x5 then (gd (px_obj (px_lay tab x0) 8) ((f_8011 tab σ x0 ((x1 + (nI 1))) x2 x4).bind fun q1 => some (.inr (q1)))) else (gd (px_obj (px_lay tab x0) 8) ((f_8010 tab σ x0 x1 x5).bind fun r2 => if (x4 &&& ((nI 1) <<< (x5 &&& 31))) = nI 0 then ((f_8011 tab σ x0 ((x1 + (nI 1))) x5 r2).bind fun q3 => f_8014_64 tab q3 x0 x1 x2 x4 x5) else ((f_8011 tab σ x0 ((x1 + (nI 1))) x5 ((r2 ||| ((nI 1) <<< (x2 &&& 31))))).bind fun q4 => f_8014_64 tab q4 x0 x1 x2 x4 x5)))
noncomputable def f_8014_18 (tab : px_T) (x0 : Nat) (x1 : Int32) (x2 : Int32) (x4 : Int32) (x5 : Int32) (σ : px_M) : Option (px_M) := lpO (fun s : Int32 × px_M => F_8014_18 tab x0 x1 x2 x4 s.1 s.2) (x5, σ)
theorem f_8014_18_eq (tab : px_T) (x0 : Nat) (x1 : Int32) (x2 : Int32) (x4 : Int32) (x5 : Int32) (σ : px_M) : f_8014_18 tab x0 x1 x2 x4 x5 σ = (F_8014_18 tab x0 x1 x2 x4 x5 σ).bind (Sum.elim (fun s => f_8014_18 tab x0 x1 x2 x4 s.1 s.2) some) := lpO_eq _ _
noncomputable def f_8014_15 (tab : px_T) (σ : px_M) (x0 : Nat) (x1 : Int32) (x2 : Int32) (x4 : Int32) : Option (px_M) := f_8014_18 tab x0 x1 x2 x4 ((nI 0)) σ
noncomputable def f_8014 (tab : px_T) (σ : px_M) (x0 : Nat) (x1 : Int32) (x2 : Int32) (x3 : Int32) : Option (px_M) := gd (px_obj (px_lay tab x0) 8) ((f_8010 tab σ x0 x1 x2).bind fun r1 => (f_8010 tab σ x0 x1 x3).bind fun r2 => f_8014_15 tab σ x0 x1 x2 ((r1 ||| r2)))
def kp_8014_64 (Q : Nat → Int32 → Int32 → Int32 → Int32 → px_M → Prop) : px_P := fun ls st τ => st = [] ∧ kN ls (fun x0 ls => kI ls (fun x1 ls => kI ls (fun x2 ls => kZ ls (fun ls => kI ls (fun x4 ls => kI ls (fun x5 ls => kZ ls (fun ls => kE ls (Q x0 x1 x2 x4 x5 τ))))))))
theorem kq_8014_64 {C : px_C} {k : Option px_V → px_M → Prop} {Q : Nat → Int32 → Int32 → Int32 → Int32 → px_M → Prop} (H : ∀ (x0 : Nat) (x1 : Int32) (x2 : Int32) (x4 : Int32) (x5 : Int32) (τ : px_M), Q x0 x1 x2 x4 x5 τ → ∀ (z3 : Option px_V) (z6 : Option px_V), px_W C k 64 [some (.inr (.inr (some x0))), some (.inl x1), some (.inl x2), z3, some (.inl x4), some (.inl x5), z6] [] τ) : ∀ ls st τ, kp_8014_64 Q ls st τ → px_W C k 64 ls st τ := by
  intro ls st τ hz
  obtain ⟨ez, h0⟩ := hz
  obtain ⟨x0, l0, e0, h1⟩ := kN_sp h0
  obtain ⟨x1, l1, e1, h2⟩ := kI_sp h1
  obtain ⟨x2, l2, e2, h3⟩ := kI_sp h2
  obtain ⟨z3, l3, e3, h4⟩ := kZ_sp h3
  obtain ⟨x4, l4, e4, h5⟩ := kI_sp h4
  obtain ⟨x5, l5, e5, h6⟩ := kI_sp h5
  obtain ⟨z6, l6, e6, h7⟩ := kZ_sp h6
  obtain ⟨ey, hy⟩ := kE_sp h7
  subst ez
  subst ey
  subst e6
  subst e5
  subst e4
  subst e3
  subst e2
  subst e1
  subst e0
  exact H x0 x1 x2 x4 x5 τ hy z3 z6
def kp_8014_18 (Q : Nat → Int32 → Int32 → Int32 → Int32 → px_M → Prop) : px_P := fun ls st τ => st = [] ∧ kN ls (fun x0 ls => kI ls (fun x1 ls => kI ls (fun x2 ls => kZ ls (fun ls => kI ls (fun x4 ls => kI ls (fun x5 ls => kZ ls (fun ls => kE ls (Q x0 x1 x2 x4 x5 τ))))))))
theorem kq_8014_18 {C : px_C} {k : Option px_V → px_M → Prop} {Q : Nat → Int32 → Int32 → Int32 → Int32 → px_M → Prop} (H : ∀ (x0 : Nat) (x1 : Int32) (x2 : Int32) (x4 : Int32) (x5 : Int32) (τ : px_M), Q x0 x1 x2 x4 x5 τ → ∀ (z3 : Option px_V) (z6 : Option px_V), px_W C k 18 [some (.inr (.inr (some x0))), some (.inl x1), some (.inl x2), z3, some (.inl x4), some (.inl x5), z6] [] τ) : ∀ ls st τ, kp_8014_18 Q ls st τ → px_W C k 18 ls st τ := by
  intro ls st τ hz
  obtain ⟨ez, h0⟩ := hz
  obtain ⟨x0, l0, e0, h1⟩ := kN_sp h0
  obtain ⟨x1, l1, e1, h2⟩ := kI_sp h1
  obtain ⟨x2, l2, e2, h3⟩ := kI_sp h2
  obtain ⟨z3, l3, e3, h4⟩ := kZ_sp h3
  obtain ⟨x4, l4, e4, h5⟩ := kI_sp h4
  obtain ⟨x5, l5, e5, h6⟩ := kI_sp h5
  obtain ⟨z6, l6, e6, h7⟩ := kZ_sp h6
  obtain ⟨ey, hy⟩ := kE_sp h7
  subst ez
  subst ey
  subst e6
  subst e5
  subst e4
  subst e3
  subst e2
  subst e1
  subst e0
  exact H x0 x1 x2 x4 x5 τ hy z3 z6
def kp_8014_15 (Q : Nat → Int32 → Int32 → Int32 → px_M → Prop) : px_P := fun ls st τ => st = [] ∧ kN ls (fun x0 ls => kI ls (fun x1 ls => kI ls (fun x2 ls => kZ ls (fun ls => kI ls (fun x4 ls => kZ ls (fun ls => kZ ls (fun ls => kE ls (Q x0 x1 x2 x4 τ))))))))
theorem kq_8014_15 {C : px_C} {k : Option px_V → px_M → Prop} {Q : Nat → Int32 → Int32 → Int32 → px_M → Prop} (H : ∀ (x0 : Nat) (x1 : Int32) (x2 : Int32) (x4 : Int32) (τ : px_M), Q x0 x1 x2 x4 τ → ∀ (z3 : Option px_V) (z5 : Option px_V) (z6 : Option px_V), px_W C k 15 [some (.inr (.inr (some x0))), some (.inl x1), some (.inl x2), z3, some (.inl x4), z5, z6] [] τ) : ∀ ls st τ, kp_8014_15 Q ls st τ → px_W C k 15 ls st τ := by
  intro ls st τ hz
  obtain ⟨ez, h0⟩ := hz
  obtain ⟨x0, l0, e0, h1⟩ := kN_sp h0
  obtain ⟨x1, l1, e1, h2⟩ := kI_sp h1
  obtain ⟨x2, l2, e2, h3⟩ := kI_sp h2
  obtain ⟨z3, l3, e3, h4⟩ := kZ_sp h3
  obtain ⟨x4, l4, e4, h5⟩ := kI_sp h4
  obtain ⟨z5, l5, e5, h6⟩ := kZ_sp h5
  obtain ⟨z6, l6, e6, h7⟩ := kZ_sp h6
  obtain ⟨ey, hy⟩ := kE_sp h7
  subst ez
  subst ey
  subst e6
  subst e5
  subst e4
  subst e3
  subst e2
  subst e1
  subst e0
  exact H x0 x1 x2 x4 τ hy z3 z5 z6
set_option maxHeartbeats 4000000 in
set_option maxRecDepth 100000 in
theorem rl_8014_64 {C : px_C} (hn : px_nd (px_tb C)) {h : Nat} (hh : 2 ≤ h) (hC : px_ok C pn_i8014 h) {k : Option px_V → px_M → Prop} {x0 : Nat} {x1 : Int32} {x2 : Int32} {x4 : Int32} {x5 : Int32} {σ : px_M} (hs : oW (f_8014_64 (px_tb C) σ x0 x1 x2 x4 x5) (Sum.elim (fun s : Int32 × px_M => ∀ (z3 : Option px_V) (z6 : Option px_V), px_W C k 18 [some (.inr (.inr (some x0))), some (.inl x1), some (.inl x2), z3, some (.inl x4), some (.inl s.1), z6] [] s.2) (fun τ => k none τ))) : ∀ (z3 : Option px_V) (z6 : Option px_V), px_W C k 64 [some (.inr (.inr (some x0))), some (.inl x1), some (.inl x2), z3, some (.inl x4), some (.inl x5), z6] [] σ := by
  intro z3 z6
  refine px_runH (h - 1) ck_8014 [] [(18, kp_8014_18 (fun y0 y1 y2 y4 y5 τ => y0 = x0 ∧ y1 = x1 ∧ y2 = x2 ∧ y4 = x4 ∧ (fun s : Int32 × px_M => ∀ (z3 : Option px_V) (z6 : Option px_V), px_W C k 18 [some (.inr (.inr (some x0))), some (.inl x1), some (.inl x2), z3, some (.inl x4), some (.inl s.1), z6] [] s.2) (y5, τ)))] 80 7 none rfl rfl hC px_nosp (by omega) (px_cut1 (kq_8014_18 (fun y0 y1 y2 y4 y5 τ hq => by obtain ⟨rfl, rfl, rfl, rfl, hq⟩ := hq; exact hq)) px_nocut) (fun G Jf hG hJf => ?_)
  unfold f_8014_64 at hs
  simp (implicitDefEqProofs := false) only [↓hG, ↓hJf, ↓px_vc, ↓px_ex, ↓px_jp, ↓rq_gi_0, ↓rq_gi_S, ↓rq_gl_0, ↓rq_gl_S, ↓rq_gr_0, ↓rq_gr_S, ↓rq_s1_0, ↓rq_s1_1, ↓rq_s1_S, ↓rq_s2_0, ↓rq_s2_1, ↓rq_s2_S, ↓rq_nl_n, ↓rq_nl_i, ↓rq_nl_l, ↓rq_nl_r, ↓rq_i1_s, ↓rq_l1_s, ↓r1_s, ↓rq_q1_s, ↓rq_i2_s, ↓rq_l2_s, ↓rq_il_s, ↓rq_d0_s, ↓rq_d1_i, ↓rq_d1_r, ↓rq_d2_l, ↓rq_d2_ii, ↓rq_d2_ir, ↓px_pop, ↓px_sp, ↓px_rd, ↓px_rf, ↓pn_xf, ↓rq_pt_0, ↓rq_pt_1, ↓rq_pt_2, ↓rq_pt_3, ↓px_sw, ↓pn_SW, ↓px_ma, ↓reduceIte, Nat.reduceEqDiff, Nat.reduceAdd, Nat.reduceSub, ↓Option.toList_some, ↓Option.toList_none, ↓List.cons_append, ↓List.nil_append, ↓kI_s, ↓kJ_s, ↓kN_s, ↓kO_s, ↓kZ_s, ↓kE_s, ↓an_rfl, ↓bt1 n00, ↓bt2 n00, ↓bf1 n10, ↓bf2 n10, ↓an_sz0, ↓an_sz1, ↓an_sz2, ↓an_sz3, ↓an_sz4, ↓an_ri, ↓an_rb0, ↓an_rb1, ↓an_b0, ↓an_b1, true_and, ↓ai_0s, ↓al_0s, ↓av_0s, ↓aq_0s, ↓ai_1s, ↓al_1s, ↓av_1s, ↓aq_1s, ↓ai_2s, ↓al_2s, ↓av_2s, ↓aq_2s, ↓ai_3s, ↓al_3s, ↓av_3s, ↓aq_3s, ↓ai_4s, ↓al_4s, ↓av_4s, ↓aq_4s, ↓ai_5s, ↓al_5s, ↓av_5s, ↓aq_5s, ↓ai_6s, ↓al_6s, ↓av_6s, ↓aq_6s, ↓ai_7s, ↓al_7s, ↓av_7s, ↓aq_7s, ↓an_l7, ↓bk_8014, ↓kp_8014_18]
  rw [oW_some] at hs
  exact hs
set_option maxHeartbeats 4000000 in
set_option maxRecDepth 100000 in
theorem rl_8014_18 {C : px_C} (hn : px_nd (px_tb C)) {h : Nat} (hh : 2 ≤ h) (hC : px_ok C pn_i8014 h) {k : Option px_V → px_M → Prop} {x0 : Nat} {x1 : Int32} {x2 : Int32} {x4 : Int32} : ∀ s : Int32 × px_M, oW (f_8014_18 (px_tb C) x0 x1 x2 x4 s.1 s.2) (fun τ => k none τ) → (fun s : Int32 × px_M => ∀ (z3 : Option px_V) (z6 : Option px_V), px_W C k 18 [some (.inr (.inr (some x0))), some (.inl x1), some (.inl x2), z3, some (.inl x4), some (.inl s.1), z6] [] s.2) s := by
  intro s h0
  refine lpO_sound (P := (fun s : Int32 × px_M => ∀ (z3 : Option px_V) (z6 : Option px_V), px_W C k 18 [some (.inr (.inr (some x0))), some (.inl x1), some (.inl x2), z3, some (.inl x4), some (.inl s.1), z6] [] s.2)) (fun s hs => ?_) h0
  obtain ⟨x5, σ⟩ := s
  intro z3 z6
  refine px_runH (h - 1) ck_8014 [(8010, Sg_8010 (f_8010 (px_tb C))), (8011, Sg_8011 (f_8011 (px_tb C)))] [(64, kp_8014_64 (fun y0 y1 y2 y4 y5 τ => y0 = x0 ∧ y1 = x1 ∧ y2 = x2 ∧ y4 = x4 ∧ oW (f_8014_64 (px_tb C) τ y0 y1 y2 y4 y5) (Sum.elim (fun s : Int32 × px_M => ∀ (z3 : Option px_V) (z6 : Option px_V), px_W C k 18 [some (.inr (.inr (some x0))), some (.inl x1), some (.inl x2), z3, some (.inl x4), some (.inl s.1), z6] [] s.2) (fun τ => k none τ))))] 80 7 none rfl rfl hC (px_sp1 (mf_8010 hn (by omega)) (px_sp1 (mf_8011 hn (by omega)) px_nosp)) (by omega) (px_cut1 (kq_8014_64 (fun y0 y1 y2 y4 y5 τ hq => by obtain ⟨rfl, rfl, rfl, rfl, hq⟩ := hq; exact rl_8014_64 hn (by omega) hC  hq)) px_nocut) (fun G Jf hG hJf => ?_)
  replace hs : oW (F_8014_18 (px_tb C) x0 x1 x2 x4 x5 σ) _ := hs
  unfold F_8014_18 at hs
  by_cases hc0 : (nI 11) ≤ x5
  · replace hs := oW_t hs hc0
    obtain ⟨hc1, hs⟩ := oW_gx hs
    obtain ⟨q1, hc2, hs⟩ := oW_bx hs
    simp (implicitDefEqProofs := false) only [↓hG, ↓hJf, ↓px_vc, ↓px_ex, ↓px_jp, ↓rq_gi_0, ↓rq_gi_S, ↓rq_gl_0, ↓rq_gl_S, ↓rq_gr_0, ↓rq_gr_S, ↓rq_s1_0, ↓rq_s1_1, ↓rq_s1_S, ↓rq_s2_0, ↓rq_s2_1, ↓rq_s2_S, ↓rq_nl_n, ↓rq_nl_i, ↓rq_nl_l, ↓rq_nl_r, ↓rq_i1_s, ↓rq_l1_s, ↓r1_s, ↓rq_q1_s, ↓rq_i2_s, ↓rq_l2_s, ↓rq_il_s, ↓rq_d0_s, ↓rq_d1_i, ↓rq_d1_r, ↓rq_d2_l, ↓rq_d2_ii, ↓rq_d2_ir, ↓px_pop, ↓px_sp, ↓px_rd, ↓px_rf, ↓pn_xf, ↓rq_pt_0, ↓rq_pt_1, ↓rq_pt_2, ↓rq_pt_3, ↓px_sw, ↓pn_SW, ↓px_ma, ↓reduceIte, Nat.reduceEqDiff, Nat.reduceAdd, Nat.reduceSub, ↓Option.toList_some, ↓Option.toList_none, ↓List.cons_append, ↓List.nil_append, ↓kI_s, ↓kJ_s, ↓kN_s, ↓kO_s, ↓kZ_s, ↓kE_s, ↓an_rfl, ↓bt1 n00, ↓bt2 n00, ↓bf1 n10, ↓bf2 n10, ↓an_sz0, ↓an_sz1, ↓an_sz2, ↓an_sz3, ↓an_sz4, ↓an_ri, ↓an_rb0, ↓an_rb1, ↓an_b0, ↓an_b1, true_and, ↓ai_0s, ↓al_0s, ↓av_0s, ↓aq_0s, ↓ai_1s, ↓al_1s, ↓av_1s, ↓aq_1s, ↓ai_2s, ↓al_2s, ↓av_2s, ↓aq_2s, ↓ai_3s, ↓al_3s, ↓av_3s, ↓aq_3s, ↓ai_4s, ↓al_4s, ↓av_4s, ↓aq_4s, ↓ai_5s, ↓al_5s, ↓av_5s, ↓aq_5s, ↓ai_6s, ↓al_6s, ↓av_6s, ↓aq_6s, ↓ai_7s, ↓al_7s, ↓av_7s, ↓aq_7s, ↓an_l7, ↓bk_8014, ↓Sg_8010, ↓Sg_8011, ↓kp_8014_64, ↓bt1 hc0, ↓bt2 hc0, ↓an_t hc1, ↓an_rv hc1, ↓oW_e hc2]
    rw [oW_some] at hs
    exact hs
  · replace hs := oW_f hs hc0
    obtain ⟨hc1, hs⟩ := oW_gx hs
    obtain ⟨r2, hc2, hs⟩ := oW_bx hs
    by_cases hc3 : (x4 &&& ((nI 1) <<< (x5 &&& 31))) = nI 0
    · replace hs := oW_t hs hc3
      obtain ⟨q3, hc4, hs⟩ := oW_bx hs
      simp (implicitDefEqProofs := false) only [↓hG, ↓hJf, ↓px_vc, ↓px_ex, ↓px_jp, ↓rq_gi_0, ↓rq_gi_S, ↓rq_gl_0, ↓rq_gl_S, ↓rq_gr_0, ↓rq_gr_S, ↓rq_s1_0, ↓rq_s1_1, ↓rq_s1_S, ↓rq_s2_0, ↓rq_s2_1, ↓rq_s2_S, ↓rq_nl_n, ↓rq_nl_i, ↓rq_nl_l, ↓rq_nl_r, ↓rq_i1_s, ↓rq_l1_s, ↓r1_s, ↓rq_q1_s, ↓rq_i2_s, ↓rq_l2_s, ↓rq_il_s, ↓rq_d0_s, ↓rq_d1_i, ↓rq_d1_r, ↓rq_d2_l, ↓rq_d2_ii, ↓rq_d2_ir, ↓px_pop, ↓px_sp, ↓px_rd, ↓px_rf, ↓pn_xf, ↓rq_pt_0, ↓rq_pt_1, ↓rq_pt_2, ↓rq_pt_3, ↓px_sw, ↓pn_SW, ↓px_ma, ↓reduceIte, Nat.reduceEqDiff, Nat.reduceAdd, Nat.reduceSub, ↓Option.toList_some, ↓Option.toList_none, ↓List.cons_append, ↓List.nil_append, ↓kI_s, ↓kJ_s, ↓kN_s, ↓kO_s, ↓kZ_s, ↓kE_s, ↓an_rfl, ↓bt1 n00, ↓bt2 n00, ↓bf1 n10, ↓bf2 n10, ↓an_sz0, ↓an_sz1, ↓an_sz2, ↓an_sz3, ↓an_sz4, ↓an_ri, ↓an_rb0, ↓an_rb1, ↓an_b0, ↓an_b1, true_and, ↓ai_0s, ↓al_0s, ↓av_0s, ↓aq_0s, ↓ai_1s, ↓al_1s, ↓av_1s, ↓aq_1s, ↓ai_2s, ↓al_2s, ↓av_2s, ↓aq_2s, ↓ai_3s, ↓al_3s, ↓av_3s, ↓aq_3s, ↓ai_4s, ↓al_4s, ↓av_4s, ↓aq_4s, ↓ai_5s, ↓al_5s, ↓av_5s, ↓aq_5s, ↓ai_6s, ↓al_6s, ↓av_6s, ↓aq_6s, ↓ai_7s, ↓al_7s, ↓av_7s, ↓aq_7s, ↓an_l7, ↓bk_8014, ↓Sg_8010, ↓Sg_8011, ↓kp_8014_64, ↓bf1 hc0, ↓bf2 hc0, ↓an_t hc1, ↓an_rv hc1, ↓oW_e hc2, ↓bt1 hc3, ↓bt2 hc3, ↓oW_e hc4]
      exact hs
    · replace hs := oW_f hs hc3
      obtain ⟨q4, hc4, hs⟩ := oW_bx hs
      simp (implicitDefEqProofs := false) only [↓hG, ↓hJf, ↓px_vc, ↓px_ex, ↓px_jp, ↓rq_gi_0, ↓rq_gi_S, ↓rq_gl_0, ↓rq_gl_S, ↓rq_gr_0, ↓rq_gr_S, ↓rq_s1_0, ↓rq_s1_1, ↓rq_s1_S, ↓rq_s2_0, ↓rq_s2_1, ↓rq_s2_S, ↓rq_nl_n, ↓rq_nl_i, ↓rq_nl_l, ↓rq_nl_r, ↓rq_i1_s, ↓rq_l1_s, ↓r1_s, ↓rq_q1_s, ↓rq_i2_s, ↓rq_l2_s, ↓rq_il_s, ↓rq_d0_s, ↓rq_d1_i, ↓rq_d1_r, ↓rq_d2_l, ↓rq_d2_ii, ↓rq_d2_ir, ↓px_pop, ↓px_sp, ↓px_rd, ↓px_rf, ↓pn_xf, ↓rq_pt_0, ↓rq_pt_1, ↓rq_pt_2, ↓rq_pt_3, ↓px_sw, ↓pn_SW, ↓px_ma, ↓reduceIte, Nat.reduceEqDiff, Nat.reduceAdd, Nat.reduceSub, ↓Option.toList_some, ↓Option.toList_none, ↓List.cons_append, ↓List.nil_append, ↓kI_s, ↓kJ_s, ↓kN_s, ↓kO_s, ↓kZ_s, ↓kE_s, ↓an_rfl, ↓bt1 n00, ↓bt2 n00, ↓bf1 n10, ↓bf2 n10, ↓an_sz0, ↓an_sz1, ↓an_sz2, ↓an_sz3, ↓an_sz4, ↓an_ri, ↓an_rb0, ↓an_rb1, ↓an_b0, ↓an_b1, true_and, ↓ai_0s, ↓al_0s, ↓av_0s, ↓aq_0s, ↓ai_1s, ↓al_1s, ↓av_1s, ↓aq_1s, ↓ai_2s, ↓al_2s, ↓av_2s, ↓aq_2s, ↓ai_3s, ↓al_3s, ↓av_3s, ↓aq_3s, ↓ai_4s, ↓al_4s, ↓av_4s, ↓aq_4s, ↓ai_5s, ↓al_5s, ↓av_5s, ↓aq_5s, ↓ai_6s, ↓al_6s, ↓av_6s, ↓aq_6s, ↓ai_7s, ↓al_7s, ↓av_7s, ↓aq_7s, ↓an_l7, ↓bk_8014, ↓Sg_8010, ↓Sg_8011, ↓kp_8014_64, ↓bf1 hc0, ↓bf2 hc0, ↓an_t hc1, ↓an_rv hc1, ↓oW_e hc2, ↓bf1 hc3, ↓bf2 hc3, ↓oW_e hc4]
      exact hs
set_option maxHeartbeats 4000000 in
set_option maxRecDepth 100000 in
theorem rl_8014_15 {C : px_C} (hn : px_nd (px_tb C)) {h : Nat} (hh : 2 ≤ h) (hC : px_ok C pn_i8014 h) {k : Option px_V → px_M → Prop} {x0 : Nat} {x1 : Int32} {x2 : Int32} {x4 : Int32} {σ : px_M} (hs : oW (f_8014_15 (px_tb C) σ x0 x1 x2 x4) (fun τ => k none τ)) : ∀ (z3 : Option px_V) (z5 : Option px_V) (z6 : Option px_V), px_W C k 15 [some (.inr (.inr (some x0))), some (.inl x1), some (.inl x2), z3, some (.inl x4), z5, z6] [] σ := by
  intro z3 z5 z6
  refine px_runH (h - 1) ck_8014 [] [(18, kp_8014_18 (fun y0 y1 y2 y4 y5 τ => oW (f_8014_18 (px_tb C) y0 y1 y2 y4 y5 τ) (fun τ => k none τ)))] 80 7 none rfl rfl hC px_nosp (by omega) (px_cut1 (kq_8014_18 (fun y0 y1 y2 y4 y5 τ hq => by exact rl_8014_18 hn (by omega) hC (y5, τ) hq)) px_nocut) (fun G Jf hG hJf => ?_)
  unfold f_8014_15 at hs
  simp (implicitDefEqProofs := false) only [↓hG, ↓hJf, ↓px_vc, ↓px_ex, ↓px_jp, ↓rq_gi_0, ↓rq_gi_S, ↓rq_gl_0, ↓rq_gl_S, ↓rq_gr_0, ↓rq_gr_S, ↓rq_s1_0, ↓rq_s1_1, ↓rq_s1_S, ↓rq_s2_0, ↓rq_s2_1, ↓rq_s2_S, ↓rq_nl_n, ↓rq_nl_i, ↓rq_nl_l, ↓rq_nl_r, ↓rq_i1_s, ↓rq_l1_s, ↓r1_s, ↓rq_q1_s, ↓rq_i2_s, ↓rq_l2_s, ↓rq_il_s, ↓rq_d0_s, ↓rq_d1_i, ↓rq_d1_r, ↓rq_d2_l, ↓rq_d2_ii, ↓rq_d2_ir, ↓px_pop, ↓px_sp, ↓px_rd, ↓px_rf, ↓pn_xf, ↓rq_pt_0, ↓rq_pt_1, ↓rq_pt_2, ↓rq_pt_3, ↓px_sw, ↓pn_SW, ↓px_ma, ↓reduceIte, Nat.reduceEqDiff, Nat.reduceAdd, Nat.reduceSub, ↓Option.toList_some, ↓Option.toList_none, ↓List.cons_append, ↓List.nil_append, ↓kI_s, ↓kJ_s, ↓kN_s, ↓kO_s, ↓kZ_s, ↓kE_s, ↓an_rfl, ↓bt1 n00, ↓bt2 n00, ↓bf1 n10, ↓bf2 n10, ↓an_sz0, ↓an_sz1, ↓an_sz2, ↓an_sz3, ↓an_sz4, ↓an_ri, ↓an_rb0, ↓an_rb1, ↓an_b0, ↓an_b1, true_and, ↓ai_0s, ↓al_0s, ↓av_0s, ↓aq_0s, ↓ai_1s, ↓al_1s, ↓av_1s, ↓aq_1s, ↓ai_2s, ↓al_2s, ↓av_2s, ↓aq_2s, ↓ai_3s, ↓al_3s, ↓av_3s, ↓aq_3s, ↓ai_4s, ↓al_4s, ↓av_4s, ↓aq_4s, ↓ai_5s, ↓al_5s, ↓av_5s, ↓aq_5s, ↓ai_6s, ↓al_6s, ↓av_6s, ↓aq_6s, ↓ai_7s, ↓al_7s, ↓av_7s, ↓aq_7s, ↓an_l7, ↓bk_8014, ↓kp_8014_18]
  exact hs
set_option maxHeartbeats 4000000 in
set_option maxRecDepth 100000 in
theorem mf_8014 {tab : px_T} (hn : px_nd tab) {h : Nat} (hh : 2 ≤ h) : px_Ok tab pn_i8014 h (Sg_8014 (f_8014 tab)) := by
  refine px_mth hn (by decide +kernel) (fun av σ k hS => ?_) (fun C hT hC av σ k hS => ?_)
  · obtain ⟨x0, av0, e0, h0⟩ := av_0p hS
    obtain ⟨x1, av1, e1, h1⟩ := ai_1p h0
    obtain ⟨x2, av2, e2, h2⟩ := ai_2p h1
    obtain ⟨x3, av3, e3, h3⟩ := ai_3p h2
    obtain ⟨ez, hs⟩ := h3
    subst ez
    subst e3
    subst e2
    subst e1
    subst e0
    exact Nat.le_of_ble_eq_true rfl
  · obtain ⟨x0, av0, e0, h0⟩ := av_0p hS
    obtain ⟨x1, av1, e1, h1⟩ := ai_1p h0
    obtain ⟨x2, av2, e2, h2⟩ := ai_2p h1
    obtain ⟨x3, av3, e3, h3⟩ := ai_3p h2
    obtain ⟨ez, hs⟩ := h3
    subst ez
    subst e3
    subst e2
    subst e1
    subst e0
    subst hT
    show px_W C k 0 [some (.inr (.inr (some x0))), some (.inl x1), some (.inl x2), some (.inl x3), none, none, none] [] σ
    refine px_runH (h - 1) ck_8014 [(8010, Sg_8010 (f_8010 (px_tb C)))] [(15, kp_8014_15 (fun y0 y1 y2 y4 τ => oW (f_8014_15 (px_tb C) τ y0 y1 y2 y4) (fun τ => k none τ)))] 80 7 none rfl rfl hC (px_sp1 (mf_8010 hn (by omega)) px_nosp) (by omega) (px_cut1 (kq_8014_15 (fun y0 y1 y2 y4 τ hq => by exact rl_8014_15 hn (by omega) hC  hq)) px_nocut) (fun G Jf hG hJf => ?_)
    unfold f_8014 at hs
    obtain ⟨hc0, hs⟩ := oW_gx hs
    obtain ⟨r1, hc1, hs⟩ := oW_bx hs
    obtain ⟨r2, hc2, hs⟩ := oW_bx hs
    simp (implicitDefEqProofs := false) only [↓hG, ↓hJf, ↓px_vc, ↓px_ex, ↓px_jp, ↓rq_gi_0, ↓rq_gi_S, ↓rq_gl_0, ↓rq_gl_S, ↓rq_gr_0, ↓rq_gr_S, ↓rq_s1_0, ↓rq_s1_1, ↓rq_s1_S, ↓rq_s2_0, ↓rq_s2_1, ↓rq_s2_S, ↓rq_nl_n, ↓rq_nl_i, ↓rq_nl_l, ↓rq_nl_r, ↓rq_i1_s, ↓rq_l1_s, ↓r1_s, ↓rq_q1_s, ↓rq_i2_s, ↓rq_l2_s, ↓rq_il_s, ↓rq_d0_s, ↓rq_d1_i, ↓rq_d1_r, ↓rq_d2_l, ↓rq_d2_ii, ↓rq_d2_ir, ↓px_pop, ↓px_sp, ↓px_rd, ↓px_rf, ↓pn_xf, ↓rq_pt_0, ↓rq_pt_1, ↓rq_pt_2, ↓rq_pt_3, ↓px_sw, ↓pn_SW, ↓px_ma, ↓reduceIte, Nat.reduceEqDiff, Nat.reduceAdd, Nat.reduceSub, ↓Option.toList_some, ↓Option.toList_none, ↓List.cons_append, ↓List.nil_append, ↓kI_s, ↓kJ_s, ↓kN_s, ↓kO_s, ↓kZ_s, ↓kE_s, ↓an_rfl, ↓bt1 n00, ↓bt2 n00, ↓bf1 n10, ↓bf2 n10, ↓an_sz0, ↓an_sz1, ↓an_sz2, ↓an_sz3, ↓an_sz4, ↓an_ri, ↓an_rb0, ↓an_rb1, ↓an_b0, ↓an_b1, true_and, ↓ai_0s, ↓al_0s, ↓av_0s, ↓aq_0s, ↓ai_1s, ↓al_1s, ↓av_1s, ↓aq_1s, ↓ai_2s, ↓al_2s, ↓av_2s, ↓aq_2s, ↓ai_3s, ↓al_3s, ↓av_3s, ↓aq_3s, ↓ai_4s, ↓al_4s, ↓av_4s, ↓aq_4s, ↓ai_5s, ↓al_5s, ↓av_5s, ↓aq_5s, ↓ai_6s, ↓al_6s, ↓av_6s, ↓aq_6s, ↓ai_7s, ↓al_7s, ↓av_7s, ↓aq_7s, ↓an_l7, ↓bk_8014, ↓Sg_8010, ↓kp_8014_15, ↓an_t hc0, ↓an_rv hc0, ↓oW_e hc1, ↓oW_e hc2]
    exact hs
def Sg_8009 (g : px_M → Nat → Int32 → Int32 → Int32 → Option (Int64 × px_M)) : px_S := fun av σ k => av_0 av (fun x0 av => ai_1 av (fun x1 av => ai_2 av (fun x2 av => ai_3 av (fun x3 av => av = [] ∧ oW (g σ x0 x1 x2 x3) (fun q => k (some (.inr (.inl q.1))) q.2)))))
/-- NoThree$Painter.waysOf(III)J -/
noncomputable def f_8009_209 (tab : px_T) (g8009 : px_M → Nat → Int32 → Int32 → Int32 → Option (Int64 × px_M)) (σ : px_M) (x4 : Int32) (x5 : Int64) (x7 : Int64) : Option (Int64 × px_M) := bn (x4 = nI 0) (some ((x5, σ))) (some (((x5 + x7), σ)))
noncomputable def f_8009_203 (tab : px_T) (g8009 : px_M → Nat → Int32 → Int32 → Int32 → Option (Int64 × px_M)) (σ : px_M) (x0 : Nat) (x1 : Int32) (x3 : Int32) (x4 : Int32) (x5 : Int64) (x7 : Int64) (x9 : Int32) : Option ((Int32 × Int64 × Int64 × Int32 × px_M) ⊕ (Int64 × px_M)) := some (.inl ((x4, x5, x7, (x9 + (nI 1)), σ)))
noncomputable def f_8009_184 (tab : px_T) (g8009 : px_M → Nat → Int32 → Int32 → Int32 → Option (Int64 × px_M)) (σ : px_M) (x0 : Nat) (x1 : Int32) (x3 : Int32) (x4 : Int32) (x5 : Int64) (x7 : Int64) (x9 : Int32) (x13 : Int32) (x14 : Int32) : Option ((Int32 × Int64 × Int64 × Int32 × px_M) ⊕ (Int64 × px_M)) := gd (px_obj (px_lay tab x0) 8) ((f_8010 tab σ x0 x1 x14).bind fun r1 => (f_8011 tab σ x0 x1 x14 ((r1 ||| ((nI 1) <<< (x13 &&& 31))))).bind fun q2 => f_8009_203 tab g8009 q2 x0 x1 x3 x4 x5 x7 x9)
noncomputable def f_8009_165 (tab : px_T) (g8009 : px_M → Nat → Int32 → Int32 → Int32 → Option (Int64 × px_M)) (σ : px_M) (x0 : Nat) (x1 : Int32) (x3 : Int32) (x4 : Int32) (x5 : Int64) (x7 : Int64) (x9 : Int32) (x13 : Int32) (x14 : Int32) : Option ((Int32 × Int64 × Int64 × Int32 × px_M) ⊕ (Int64 × px_M)) := gd (px_obj (px_lay tab x0) 8) ((f_8010 tab σ x0 x1 x13).bind fun r1 => (f_8011 tab σ x0 x1 x13 ((r1 ||| ((nI 1) <<< (x14 &&& 31))))).bind fun q2 => f_8009_184 tab g8009 q2 x0 x1 x3 x4 x5 x7 x9 x13 x14)
noncomputable def f_8009_140 (tab : px_T) (g8009 : px_M → Nat → Int32 → Int32 → Int32 → Option (Int64 × px_M)) (σ : px_M) (x0 : Nat) (x1 : Int32) (x3 : Int32) (x4 : Int32) (x5 : Int64) (x7 : Int64) (x9 : Int32) (x13 : Int32) (x14 : Int32) : Option ((Int32 × Int64 × Int64 × Int32 × px_M) ⊕ (Int64 × px_M)) := gd (px_obj (px_lay tab x0) 8) ((g8009 σ x0 ((x1 + (nI 1))) ((x4 &&& (((nI 1) <<< (x14 &&& 31)) ^^^ (-1)))) x3).bind fun q1 => f_8009_165 tab g8009 q1.2 x0 x1 x3 x4 ((x5 + (x7 * q1.1))) x7 x9 x13 x14)
noncomputable def f_8009_123 (tab : px_T) (g8009 : px_M → Nat → Int32 → Int32 → Int32 → Option (Int64 × px_M)) (σ : px_M) (x0 : Nat) (x1 : Int32) (x3 : Int32) (x4 : Int32) (x5 : Int64) (x7 : Int64) (x9 : Int32) (x13 : Int32) (x14 : Int32) : Option ((Int32 × Int64 × Int64 × Int32 × px_M) ⊕ (Int64 × px_M)) := if (nI 12) ≤ (x1 + (nI 1)) then (f_8009_165 tab g8009 σ x0 x1 x3 x4 x5 x7 x9 x13 x14) else (gd (px_obj (px_lay tab x0) 8) ((f_8014 tab σ x0 x1 x13 x14).bind fun q1 => f_8009_140 tab g8009 q1 x0 x1 x3 x4 x5 x7 x9 x13 x14))
noncomputable def f_8009_116 (tab : px_T) (g8009 : px_M → Nat → Int32 → Int32 → Int32 → Option (Int64 × px_M)) (σ : px_M) (x0 : Nat) (x1 : Int32) (x3 : Int32) (x4 : Int32) (x5 : Int64) (x7 : Int64) (x9 : Int32) (x12 : Int32) (x13 : Int32) : Option ((Int32 × Int64 × Int64 × Int32 × px_M) ⊕ (Int64 × px_M)) := gd (¬ (nI 11) = nI 0) (f_8009_123 tab g8009 σ x0 x1 x3 x4 x5 x7 x9 x13 ((x12 - x12 / (nI 11) * (nI 11))))
noncomputable def f_8009_109 (tab : px_T) (g8009 : px_M → Nat → Int32 → Int32 → Int32 → Option (Int64 × px_M)) (σ : px_M) (x0 : Nat) (x1 : Int32) (x3 : Int32) (x4 : Int32) (x5 : Int64) (x7 : Int64) (x9 : Int32) (x12 : Int32) : Option ((Int32 × Int64 × Int64 × Int32 × px_M) ⊕ (Int64 × px_M)) := gd (¬ (nI 11) = nI 0) (f_8009_116 tab g8009 σ x0 x1 x3 x4 x5 x7 x9 x12 ((x12 / (nI 11))))
noncomputable def f_8009_85 (tab : px_T) (g8009 : px_M → Nat → Int32 → Int32 → Int32 → Option (Int64 × px_M)) (σ : px_M) (x0 : Nat) (x1 : Int32) (x3 : Int32) (x4 : Int32) (x5 : Int64) (x7 : Int64) (x9 : Int32) (x10 : Int32) : Option ((Int32 × Int64 × Int64 × Int32 × px_M) ⊕ (Int64 × px_M)) := if (lN 0) < x7 then (f_8009_203 tab g8009 σ x0 x1 x3 ((x4 &&& (((nI 1) <<< (x10 &&& 31)) ^^^ (-1)))) x5 x7 x9) else (some (.inr ((x5, σ))))
noncomputable def f_8009_72 (tab : px_T) (g8009 : px_M → Nat → Int32 → Int32 → Int32 → Option (Int64 × px_M)) (σ : px_M) (x0 : Nat) (x1 : Int32) (x3 : Int32) (x4 : Int32) (x5 : Int64) (x7 : Int64) (x9 : Int32) (x10 : Int32) (x11 : Int32) : Option ((Int32 × Int64 × Int64 × Int32 × px_M) ⊕ (Int64 × px_M)) := (f_21000 tab σ x11).bind fun r1 => f_8009_85 tab g8009 σ x0 x1 x3 x4 x5 ((x7 * ((x3 - r1)).toInt64)) x9 x10
noncomputable def f_8009_57 (tab : px_T) (g8009 : px_M → Nat → Int32 → Int32 → Int32 → Option (Int64 × px_M)) (σ : px_M) (x0 : Nat) (x1 : Int32) (x3 : Int32) (x4 : Int32) (x5 : Int64) (x7 : Int64) (x9 : Int32) (x10 : Int32) (x11 : Int32) : Option ((Int32 × Int64 × Int64 × Int32 × px_M) ⊕ (Int64 × px_M)) := gd (px_obj (px_lay tab x0) 8) ((f_8013 tab σ x0 x1 x11).bind fun r1 => bn (r1 = (-1)) (f_8009_109 tab g8009 σ x0 x1 x3 x4 x5 x7 x9 r1) (f_8009_72 tab g8009 σ x0 x1 x3 x4 x5 x7 x9 x10 x11))
noncomputable def f_8009_45 (tab : px_T) (g8009 : px_M → Nat → Int32 → Int32 → Int32 → Option (Int64 × px_M)) (σ : px_M) (x0 : Nat) (x1 : Int32) (x3 : Int32) (x4 : Int32) (x5 : Int64) (x7 : Int64) (x9 : Int32) (x10 : Int32) : Option ((Int32 × Int64 × Int64 × Int32 × px_M) ⊕ (Int64 × px_M)) := gd (px_obj (px_lay tab x0) 8) ((f_8010 tab σ x0 x1 x10).bind fun r1 => f_8009_57 tab g8009 σ x0 x1 x3 x4 x5 x7 x9 x10 ((r1 &&& x4)))
noncomputable def F_8009_24 (tab : px_T) (g8009 : px_M → Nat → Int32 → Int32 → Int32 → Option (Int64 × px_M)) (x0 : Nat) (x1 : Int32) (x3 : Int32) (x4 : Int32) (x5 : Int64) (x7 : Int64) (x9 : Int32) (σ : px_M) : Option ((Int32 × Int64 × Int64 × Int32 × px_M) ⊕ (Int64 × px_M)) := if (nI 100) ≤ x9 then (Option.map Sum.inr (f_8009_209 tab g8009 σ x4 x5 x7)) else (if x4 = nI 0 then (Option.map Sum.inr (f_8009_209 tab g8009 σ x4 x5 x7)) else (gd (px_obj (px_lay tab x0) 8) ((f_8012 tab σ x0 x1 x4).bind fun r1 => f_8009_45 tab g8009 σ x0 x1 x3 x4 x5 x7 x9 r1)))
noncomputable def f_8009_24 (tab : px_T) (g8009 : px_M → Nat → Int32 → Int32 → Int32 → Option (Int64 × px_M)) (x0 : Nat) (x1 : Int32) (x3 : Int32) (x4 : Int32) (x5 : Int64) (x7 : Int64) (x9 : Int32) (σ : px_M) : Option (Int64 × px_M) := lpO (fun s : Int32 × Int64 × Int64 × Int32 × px_M => F_8009_24 tab g8009 x0 x1 x3 s.1 s.2.1 s.2.2.1 s.2.2.2.1 s.2.2.2.2) (x4, x5, x7, x9, σ)
theorem f_8009_24_eq (tab : px_T) (g8009 : px_M → Nat → Int32 → Int32 → Int32 → Option (Int64 × px_M)) (x0 : Nat) (x1 : Int32) (x3 : Int32) (x4 : Int32) (x5 : Int64) (x7 : Int64) (x9 : Int32) (σ : px_M) : f_8009_24 tab g8009 x0 x1 x3 x4 x5 x7 x9 σ = (F_8009_24 tab g8009 x0 x1 x3 x4 x5 x7 x9 σ).bind (Sum.elim (fun s => f_8009_24 tab g8009 x0 x1 x3 s.1 s.2.1 s.2.2.1 s.2.2.2.1 s.2.2.2.2) some) := lpO_eq _ _
noncomputable def f_8009_10 (tab : px_T) (g8009 : px_M → Nat → Int32 → Int32 → Int32 → Option (Int64 × px_M)) (σ : px_M) : Option (Int64 × px_M) := some (((lN 0), σ))
noncomputable def F_8009 (tab : px_T) (g8009 : px_M → Nat → Int32 → Int32 → Int32 → Option (Int64 × px_M)) (σ : px_M) (x0 : Nat) (x1 : Int32) (x2 : Int32) (x3 : Int32) : Option (Int64 × px_M) := if x1 < nI 0 then (f_8009_10 tab g8009 σ) else (if x1 < (nI 12) then (f_8009_24 tab g8009 x0 x1 x3 x2 ((lN 0)) ((lN 1)) ((nI 0)) σ) else (f_8009_10 tab g8009 σ))
def kp_8009_209 (Q : Int32 → Int64 → Int64 → px_M → Prop) : px_P := fun ls st τ => st = [] ∧ kZ ls (fun ls => kZ ls (fun ls => kZ ls (fun ls => kZ ls (fun ls => kI ls (fun x4 ls => kJ ls (fun x5 ls => kJ ls (fun x7 ls => kZ ls (fun ls => kZ ls (fun ls => kZ ls (fun ls => kZ ls (fun ls => kZ ls (fun ls => kZ ls (fun ls => kE ls (Q x4 x5 x7 τ))))))))))))))
theorem kq_8009_209 {C : px_C} {k : Option px_V → px_M → Prop} {Q : Int32 → Int64 → Int64 → px_M → Prop} (H : ∀ (x4 : Int32) (x5 : Int64) (x7 : Int64) (τ : px_M), Q x4 x5 x7 τ → ∀ (z0 : Option px_V) (z1 : Option px_V) (z2 : Option px_V) (z3 : Option px_V) (z9 : Option px_V) (z10 : Option px_V) (z11 : Option px_V) (z12 : Option px_V) (z13 : Option px_V) (z14 : Option px_V), px_W C k 209 [z0, z1, z2, z3, some (.inl x4), some (.inr (.inl x5)), none, some (.inr (.inl x7)), none, z9, z10, z11, z12, z13, z14] [] τ) : ∀ ls st τ, kp_8009_209 Q ls st τ → px_W C k 209 ls st τ := by
  intro ls st τ hz
  obtain ⟨ez, h0⟩ := hz
  obtain ⟨z0, l0, e0, h1⟩ := kZ_sp h0
  obtain ⟨z1, l1, e1, h2⟩ := kZ_sp h1
  obtain ⟨z2, l2, e2, h3⟩ := kZ_sp h2
  obtain ⟨z3, l3, e3, h4⟩ := kZ_sp h3
  obtain ⟨x4, l4, e4, h5⟩ := kI_sp h4
  obtain ⟨x5, l5, e5, h6⟩ := kJ_sp h5
  obtain ⟨x7, l6, e6, h7⟩ := kJ_sp h6
  obtain ⟨z9, l7, e7, h8⟩ := kZ_sp h7
  obtain ⟨z10, l8, e8, h9⟩ := kZ_sp h8
  obtain ⟨z11, l9, e9, h10⟩ := kZ_sp h9
  obtain ⟨z12, l10, e10, h11⟩ := kZ_sp h10
  obtain ⟨z13, l11, e11, h12⟩ := kZ_sp h11
  obtain ⟨z14, l12, e12, h13⟩ := kZ_sp h12
  obtain ⟨ey, hy⟩ := kE_sp h13
  subst ez
  subst ey
  subst e12
  subst e11
  subst e10
  subst e9
  subst e8
  subst e7
  subst e6
  subst e5
  subst e4
  subst e3
  subst e2
  subst e1
  subst e0
  exact H x4 x5 x7 τ hy z0 z1 z2 z3 z9 z10 z11 z12 z13 z14
def kp_8009_203 (Q : Nat → Int32 → Int32 → Int32 → Int64 → Int64 → Int32 → px_M → Prop) : px_P := fun ls st τ => st = [] ∧ kN ls (fun x0 ls => kI ls (fun x1 ls => kZ ls (fun ls => kI ls (fun x3 ls => kI ls (fun x4 ls => kJ ls (fun x5 ls => kJ ls (fun x7 ls => kI ls (fun x9 ls => kZ ls (fun ls => kZ ls (fun ls => kZ ls (fun ls => kZ ls (fun ls => kZ ls (fun ls => kE ls (Q x0 x1 x3 x4 x5 x7 x9 τ))))))))))))))
theorem kq_8009_203 {C : px_C} {k : Option px_V → px_M → Prop} {Q : Nat → Int32 → Int32 → Int32 → Int64 → Int64 → Int32 → px_M → Prop} (H : ∀ (x0 : Nat) (x1 : Int32) (x3 : Int32) (x4 : Int32) (x5 : Int64) (x7 : Int64) (x9 : Int32) (τ : px_M), Q x0 x1 x3 x4 x5 x7 x9 τ → ∀ (z2 : Option px_V) (z10 : Option px_V) (z11 : Option px_V) (z12 : Option px_V) (z13 : Option px_V) (z14 : Option px_V), px_W C k 203 [some (.inr (.inr (some x0))), some (.inl x1), z2, some (.inl x3), some (.inl x4), some (.inr (.inl x5)), none, some (.inr (.inl x7)), none, some (.inl x9), z10, z11, z12, z13, z14] [] τ) : ∀ ls st τ, kp_8009_203 Q ls st τ → px_W C k 203 ls st τ := by
  intro ls st τ hz
  obtain ⟨ez, h0⟩ := hz
  obtain ⟨x0, l0, e0, h1⟩ := kN_sp h0
  obtain ⟨x1, l1, e1, h2⟩ := kI_sp h1
  obtain ⟨z2, l2, e2, h3⟩ := kZ_sp h2
  obtain ⟨x3, l3, e3, h4⟩ := kI_sp h3
  obtain ⟨x4, l4, e4, h5⟩ := kI_sp h4
  obtain ⟨x5, l5, e5, h6⟩ := kJ_sp h5
  obtain ⟨x7, l6, e6, h7⟩ := kJ_sp h6
  obtain ⟨x9, l7, e7, h8⟩ := kI_sp h7
  obtain ⟨z10, l8, e8, h9⟩ := kZ_sp h8
  obtain ⟨z11, l9, e9, h10⟩ := kZ_sp h9
  obtain ⟨z12, l10, e10, h11⟩ := kZ_sp h10
  obtain ⟨z13, l11, e11, h12⟩ := kZ_sp h11
  obtain ⟨z14, l12, e12, h13⟩ := kZ_sp h12
  obtain ⟨ey, hy⟩ := kE_sp h13
  subst ez
  subst ey
  subst e12
  subst e11
  subst e10
  subst e9
  subst e8
  subst e7
  subst e6
  subst e5
  subst e4
  subst e3
  subst e2
  subst e1
  subst e0
  exact H x0 x1 x3 x4 x5 x7 x9 τ hy z2 z10 z11 z12 z13 z14
def kp_8009_184 (Q : Nat → Int32 → Int32 → Int32 → Int64 → Int64 → Int32 → Int32 → Int32 → px_M → Prop) : px_P := fun ls st τ => st = [] ∧ kN ls (fun x0 ls => kI ls (fun x1 ls => kZ ls (fun ls => kI ls (fun x3 ls => kI ls (fun x4 ls => kJ ls (fun x5 ls => kJ ls (fun x7 ls => kI ls (fun x9 ls => kZ ls (fun ls => kZ ls (fun ls => kZ ls (fun ls => kI ls (fun x13 ls => kI ls (fun x14 ls => kE ls (Q x0 x1 x3 x4 x5 x7 x9 x13 x14 τ))))))))))))))
theorem kq_8009_184 {C : px_C} {k : Option px_V → px_M → Prop} {Q : Nat → Int32 → Int32 → Int32 → Int64 → Int64 → Int32 → Int32 → Int32 → px_M → Prop} (H : ∀ (x0 : Nat) (x1 : Int32) (x3 : Int32) (x4 : Int32) (x5 : Int64) (x7 : Int64) (x9 : Int32) (x13 : Int32) (x14 : Int32) (τ : px_M), Q x0 x1 x3 x4 x5 x7 x9 x13 x14 τ → ∀ (z2 : Option px_V) (z10 : Option px_V) (z11 : Option px_V) (z12 : Option px_V), px_W C k 184 [some (.inr (.inr (some x0))), some (.inl x1), z2, some (.inl x3), some (.inl x4), some (.inr (.inl x5)), none, some (.inr (.inl x7)), none, some (.inl x9), z10, z11, z12, some (.inl x13), some (.inl x14)] [] τ) : ∀ ls st τ, kp_8009_184 Q ls st τ → px_W C k 184 ls st τ := by
  intro ls st τ hz
  obtain ⟨ez, h0⟩ := hz
  obtain ⟨x0, l0, e0, h1⟩ := kN_sp h0
  obtain ⟨x1, l1, e1, h2⟩ := kI_sp h1
  obtain ⟨z2, l2, e2, h3⟩ := kZ_sp h2
  obtain ⟨x3, l3, e3, h4⟩ := kI_sp h3
  obtain ⟨x4, l4, e4, h5⟩ := kI_sp h4
  obtain ⟨x5, l5, e5, h6⟩ := kJ_sp h5
  obtain ⟨x7, l6, e6, h7⟩ := kJ_sp h6
  obtain ⟨x9, l7, e7, h8⟩ := kI_sp h7
  obtain ⟨z10, l8, e8, h9⟩ := kZ_sp h8
  obtain ⟨z11, l9, e9, h10⟩ := kZ_sp h9
  obtain ⟨z12, l10, e10, h11⟩ := kZ_sp h10
  obtain ⟨x13, l11, e11, h12⟩ := kI_sp h11
  obtain ⟨x14, l12, e12, h13⟩ := kI_sp h12
  obtain ⟨ey, hy⟩ := kE_sp h13
  subst ez
  subst ey
  subst e12
  subst e11
  subst e10
  subst e9
  subst e8
  subst e7
  subst e6
  subst e5
  subst e4
  subst e3
  subst e2
  subst e1
  subst e0
  exact H x0 x1 x3 x4 x5 x7 x9 x13 x14 τ hy z2 z10 z11 z12
def kp_8009_165 (Q : Nat → Int32 → Int32 → Int32 → Int64 → Int64 → Int32 → Int32 → Int32 → px_M → Prop) : px_P := fun ls st τ => st = [] ∧ kN ls (fun x0 ls => kI ls (fun x1 ls => kZ ls (fun ls => kI ls (fun x3 ls => kI ls (fun x4 ls => kJ ls (fun x5 ls => kJ ls (fun x7 ls => kI ls (fun x9 ls => kZ ls (fun ls => kZ ls (fun ls => kZ ls (fun ls => kI ls (fun x13 ls => kI ls (fun x14 ls => kE ls (Q x0 x1 x3 x4 x5 x7 x9 x13 x14 τ))))))))))))))
theorem kq_8009_165 {C : px_C} {k : Option px_V → px_M → Prop} {Q : Nat → Int32 → Int32 → Int32 → Int64 → Int64 → Int32 → Int32 → Int32 → px_M → Prop} (H : ∀ (x0 : Nat) (x1 : Int32) (x3 : Int32) (x4 : Int32) (x5 : Int64) (x7 : Int64) (x9 : Int32) (x13 : Int32) (x14 : Int32) (τ : px_M), Q x0 x1 x3 x4 x5 x7 x9 x13 x14 τ → ∀ (z2 : Option px_V) (z10 : Option px_V) (z11 : Option px_V) (z12 : Option px_V), px_W C k 165 [some (.inr (.inr (some x0))), some (.inl x1), z2, some (.inl x3), some (.inl x4), some (.inr (.inl x5)), none, some (.inr (.inl x7)), none, some (.inl x9), z10, z11, z12, some (.inl x13), some (.inl x14)] [] τ) : ∀ ls st τ, kp_8009_165 Q ls st τ → px_W C k 165 ls st τ := by
  intro ls st τ hz
  obtain ⟨ez, h0⟩ := hz
  obtain ⟨x0, l0, e0, h1⟩ := kN_sp h0
  obtain ⟨x1, l1, e1, h2⟩ := kI_sp h1
  obtain ⟨z2, l2, e2, h3⟩ := kZ_sp h2
  obtain ⟨x3, l3, e3, h4⟩ := kI_sp h3
  obtain ⟨x4, l4, e4, h5⟩ := kI_sp h4
  obtain ⟨x5, l5, e5, h6⟩ := kJ_sp h5
  obtain ⟨x7, l6, e6, h7⟩ := kJ_sp h6
  obtain ⟨x9, l7, e7, h8⟩ := kI_sp h7
  obtain ⟨z10, l8, e8, h9⟩ := kZ_sp h8
  obtain ⟨z11, l9, e9, h10⟩ := kZ_sp h9
  obtain ⟨z12, l10, e10, h11⟩ := kZ_sp h10
  obtain ⟨x13, l11, e11, h12⟩ := kI_sp h11
  obtain ⟨x14, l12, e12, h13⟩ := kI_sp h12
  obtain ⟨ey, hy⟩ := kE_sp h13
  subst ez
  subst ey
  subst e12
  subst e11
  subst e10
  subst e9
  subst e8
  subst e7
  subst e6
  subst e5
  subst e4
  subst e3
  subst e2
  subst e1
  subst e0
  exact H x0 x1 x3 x4 x5 x7 x9 x13 x14 τ hy z2 z10 z11 z12
def kp_8009_140 (Q : Nat → Int32 → Int32 → Int32 → Int64 → Int64 → Int32 → Int32 → Int32 → px_M → Prop) : px_P := fun ls st τ => st = [] ∧ kN ls (fun x0 ls => kI ls (fun x1 ls => kZ ls (fun ls => kI ls (fun x3 ls => kI ls (fun x4 ls => kJ ls (fun x5 ls => kJ ls (fun x7 ls => kI ls (fun x9 ls => kZ ls (fun ls => kZ ls (fun ls => kZ ls (fun ls => kI ls (fun x13 ls => kI ls (fun x14 ls => kE ls (Q x0 x1 x3 x4 x5 x7 x9 x13 x14 τ))))))))))))))
theorem kq_8009_140 {C : px_C} {k : Option px_V → px_M → Prop} {Q : Nat → Int32 → Int32 → Int32 → Int64 → Int64 → Int32 → Int32 → Int32 → px_M → Prop} (H : ∀ (x0 : Nat) (x1 : Int32) (x3 : Int32) (x4 : Int32) (x5 : Int64) (x7 : Int64) (x9 : Int32) (x13 : Int32) (x14 : Int32) (τ : px_M), Q x0 x1 x3 x4 x5 x7 x9 x13 x14 τ → ∀ (z2 : Option px_V) (z10 : Option px_V) (z11 : Option px_V) (z12 : Option px_V), px_W C k 140 [some (.inr (.inr (some x0))), some (.inl x1), z2, some (.inl x3), some (.inl x4), some (.inr (.inl x5)), none, some (.inr (.inl x7)), none, some (.inl x9), z10, z11, z12, some (.inl x13), some (.inl x14)] [] τ) : ∀ ls st τ, kp_8009_140 Q ls st τ → px_W C k 140 ls st τ := by
  intro ls st τ hz
  obtain ⟨ez, h0⟩ := hz
  obtain ⟨x0, l0, e0, h1⟩ := kN_sp h0
  obtain ⟨x1, l1, e1, h2⟩ := kI_sp h1
  obtain ⟨z2, l2, e2, h3⟩ := kZ_sp h2
  obtain ⟨x3, l3, e3, h4⟩ := kI_sp h3
  obtain ⟨x4, l4, e4, h5⟩ := kI_sp h4
  obtain ⟨x5, l5, e5, h6⟩ := kJ_sp h5
  obtain ⟨x7, l6, e6, h7⟩ := kJ_sp h6
  obtain ⟨x9, l7, e7, h8⟩ := kI_sp h7
  obtain ⟨z10, l8, e8, h9⟩ := kZ_sp h8
  obtain ⟨z11, l9, e9, h10⟩ := kZ_sp h9
  obtain ⟨z12, l10, e10, h11⟩ := kZ_sp h10
  obtain ⟨x13, l11, e11, h12⟩ := kI_sp h11
  obtain ⟨x14, l12, e12, h13⟩ := kI_sp h12
  obtain ⟨ey, hy⟩ := kE_sp h13
  subst ez
  subst ey
  subst e12
  subst e11
  subst e10
  subst e9
  subst e8
  subst e7
  subst e6
  subst e5
  subst e4
  subst e3
  subst e2
  subst e1
  subst e0
  exact H x0 x1 x3 x4 x5 x7 x9 x13 x14 τ hy z2 z10 z11 z12
def kp_8009_123 (Q : Nat → Int32 → Int32 → Int32 → Int64 → Int64 → Int32 → Int32 → Int32 → px_M → Prop) : px_P := fun ls st τ => st = [] ∧ kN ls (fun x0 ls => kI ls (fun x1 ls => kZ ls (fun ls => kI ls (fun x3 ls => kI ls (fun x4 ls => kJ ls (fun x5 ls => kJ ls (fun x7 ls => kI ls (fun x9 ls => kZ ls (fun ls => kZ ls (fun ls => kZ ls (fun ls => kI ls (fun x13 ls => kI ls (fun x14 ls => kE ls (Q x0 x1 x3 x4 x5 x7 x9 x13 x14 τ))))))))))))))
theorem kq_8009_123 {C : px_C} {k : Option px_V → px_M → Prop} {Q : Nat → Int32 → Int32 → Int32 → Int64 → Int64 → Int32 → Int32 → Int32 → px_M → Prop} (H : ∀ (x0 : Nat) (x1 : Int32) (x3 : Int32) (x4 : Int32) (x5 : Int64) (x7 : Int64) (x9 : Int32) (x13 : Int32) (x14 : Int32) (τ : px_M), Q x0 x1 x3 x4 x5 x7 x9 x13 x14 τ → ∀ (z2 : Option px_V) (z10 : Option px_V) (z11 : Option px_V) (z12 : Option px_V), px_W C k 123 [some (.inr (.inr (some x0))), some (.inl x1), z2, some (.inl x3), some (.inl x4), some (.inr (.inl x5)), none, some (.inr (.inl x7)), none, some (.inl x9), z10, z11, z12, some (.inl x13), some (.inl x14)] [] τ) : ∀ ls st τ, kp_8009_123 Q ls st τ → px_W C k 123 ls st τ := by
  intro ls st τ hz
  obtain ⟨ez, h0⟩ := hz
  obtain ⟨x0, l0, e0, h1⟩ := kN_sp h0
  obtain ⟨x1, l1, e1, h2⟩ := kI_sp h1
  obtain ⟨z2, l2, e2, h3⟩ := kZ_sp h2
  obtain ⟨x3, l3, e3, h4⟩ := kI_sp h3
  obtain ⟨x4, l4, e4, h5⟩ := kI_sp h4
  obtain ⟨x5, l5, e5, h6⟩ := kJ_sp h5
  obtain ⟨x7, l6, e6, h7⟩ := kJ_sp h6
  obtain ⟨x9, l7, e7, h8⟩ := kI_sp h7
  obtain ⟨z10, l8, e8, h9⟩ := kZ_sp h8
  obtain ⟨z11, l9, e9, h10⟩ := kZ_sp h9
  obtain ⟨z12, l10, e10, h11⟩ := kZ_sp h10
  obtain ⟨x13, l11, e11, h12⟩ := kI_sp h11
  obtain ⟨x14, l12, e12, h13⟩ := kI_sp h12
  obtain ⟨ey, hy⟩ := kE_sp h13
  subst ez
  subst ey
  subst e12
  subst e11
  subst e10
  subst e9
  subst e8
  subst e7
  subst e6
  subst e5
  subst e4
  subst e3
  subst e2
  subst e1
  subst e0
  exact H x0 x1 x3 x4 x5 x7 x9 x13 x14 τ hy z2 z10 z11 z12
def kp_8009_116 (Q : Nat → Int32 → Int32 → Int32 → Int64 → Int64 → Int32 → Int32 → Int32 → px_M → Prop) : px_P := fun ls st τ => st = [] ∧ kN ls (fun x0 ls => kI ls (fun x1 ls => kZ ls (fun ls => kI ls (fun x3 ls => kI ls (fun x4 ls => kJ ls (fun x5 ls => kJ ls (fun x7 ls => kI ls (fun x9 ls => kZ ls (fun ls => kZ ls (fun ls => kI ls (fun x12 ls => kI ls (fun x13 ls => kZ ls (fun ls => kE ls (Q x0 x1 x3 x4 x5 x7 x9 x12 x13 τ))))))))))))))
theorem kq_8009_116 {C : px_C} {k : Option px_V → px_M → Prop} {Q : Nat → Int32 → Int32 → Int32 → Int64 → Int64 → Int32 → Int32 → Int32 → px_M → Prop} (H : ∀ (x0 : Nat) (x1 : Int32) (x3 : Int32) (x4 : Int32) (x5 : Int64) (x7 : Int64) (x9 : Int32) (x12 : Int32) (x13 : Int32) (τ : px_M), Q x0 x1 x3 x4 x5 x7 x9 x12 x13 τ → ∀ (z2 : Option px_V) (z10 : Option px_V) (z11 : Option px_V) (z14 : Option px_V), px_W C k 116 [some (.inr (.inr (some x0))), some (.inl x1), z2, some (.inl x3), some (.inl x4), some (.inr (.inl x5)), none, some (.inr (.inl x7)), none, some (.inl x9), z10, z11, some (.inl x12), some (.inl x13), z14] [] τ) : ∀ ls st τ, kp_8009_116 Q ls st τ → px_W C k 116 ls st τ := by
  intro ls st τ hz
  obtain ⟨ez, h0⟩ := hz
  obtain ⟨x0, l0, e0, h1⟩ := kN_sp h0
  obtain ⟨x1, l1, e1, h2⟩ := kI_sp h1
  obtain ⟨z2, l2, e2, h3⟩ := kZ_sp h2
  obtain ⟨x3, l3, e3, h4⟩ := kI_sp h3
  obtain ⟨x4, l4, e4, h5⟩ := kI_sp h4
  obtain ⟨x5, l5, e5, h6⟩ := kJ_sp h5
  obtain ⟨x7, l6, e6, h7⟩ := kJ_sp h6
  obtain ⟨x9, l7, e7, h8⟩ := kI_sp h7
  obtain ⟨z10, l8, e8, h9⟩ := kZ_sp h8
  obtain ⟨z11, l9, e9, h10⟩ := kZ_sp h9
  obtain ⟨x12, l10, e10, h11⟩ := kI_sp h10
  obtain ⟨x13, l11, e11, h12⟩ := kI_sp h11
  obtain ⟨z14, l12, e12, h13⟩ := kZ_sp h12
  obtain ⟨ey, hy⟩ := kE_sp h13
  subst ez
  subst ey
  subst e12
  subst e11
  subst e10
  subst e9
  subst e8
  subst e7
  subst e6
  subst e5
  subst e4
  subst e3
  subst e2
  subst e1
  subst e0
  exact H x0 x1 x3 x4 x5 x7 x9 x12 x13 τ hy z2 z10 z11 z14
def kp_8009_109 (Q : Nat → Int32 → Int32 → Int32 → Int64 → Int64 → Int32 → Int32 → px_M → Prop) : px_P := fun ls st τ => st = [] ∧ kN ls (fun x0 ls => kI ls (fun x1 ls => kZ ls (fun ls => kI ls (fun x3 ls => kI ls (fun x4 ls => kJ ls (fun x5 ls => kJ ls (fun x7 ls => kI ls (fun x9 ls => kZ ls (fun ls => kZ ls (fun ls => kI ls (fun x12 ls => kZ ls (fun ls => kZ ls (fun ls => kE ls (Q x0 x1 x3 x4 x5 x7 x9 x12 τ))))))))))))))
theorem kq_8009_109 {C : px_C} {k : Option px_V → px_M → Prop} {Q : Nat → Int32 → Int32 → Int32 → Int64 → Int64 → Int32 → Int32 → px_M → Prop} (H : ∀ (x0 : Nat) (x1 : Int32) (x3 : Int32) (x4 : Int32) (x5 : Int64) (x7 : Int64) (x9 : Int32) (x12 : Int32) (τ : px_M), Q x0 x1 x3 x4 x5 x7 x9 x12 τ → ∀ (z2 : Option px_V) (z10 : Option px_V) (z11 : Option px_V) (z13 : Option px_V) (z14 : Option px_V), px_W C k 109 [some (.inr (.inr (some x0))), some (.inl x1), z2, some (.inl x3), some (.inl x4), some (.inr (.inl x5)), none, some (.inr (.inl x7)), none, some (.inl x9), z10, z11, some (.inl x12), z13, z14] [] τ) : ∀ ls st τ, kp_8009_109 Q ls st τ → px_W C k 109 ls st τ := by
  intro ls st τ hz
  obtain ⟨ez, h0⟩ := hz
  obtain ⟨x0, l0, e0, h1⟩ := kN_sp h0
  obtain ⟨x1, l1, e1, h2⟩ := kI_sp h1
  obtain ⟨z2, l2, e2, h3⟩ := kZ_sp h2
  obtain ⟨x3, l3, e3, h4⟩ := kI_sp h3
  obtain ⟨x4, l4, e4, h5⟩ := kI_sp h4
  obtain ⟨x5, l5, e5, h6⟩ := kJ_sp h5
  obtain ⟨x7, l6, e6, h7⟩ := kJ_sp h6
  obtain ⟨x9, l7, e7, h8⟩ := kI_sp h7
  obtain ⟨z10, l8, e8, h9⟩ := kZ_sp h8
  obtain ⟨z11, l9, e9, h10⟩ := kZ_sp h9
  obtain ⟨x12, l10, e10, h11⟩ := kI_sp h10
  obtain ⟨z13, l11, e11, h12⟩ := kZ_sp h11
  obtain ⟨z14, l12, e12, h13⟩ := kZ_sp h12
  obtain ⟨ey, hy⟩ := kE_sp h13
  subst ez
  subst ey
  subst e12
  subst e11
  subst e10
  subst e9
  subst e8
  subst e7
  subst e6
  subst e5
  subst e4
  subst e3
  subst e2
  subst e1
  subst e0
  exact H x0 x1 x3 x4 x5 x7 x9 x12 τ hy z2 z10 z11 z13 z14
def kp_8009_85 (Q : Nat → Int32 → Int32 → Int32 → Int64 → Int64 → Int32 → Int32 → px_M → Prop) : px_P := fun ls st τ => st = [] ∧ kN ls (fun x0 ls => kI ls (fun x1 ls => kZ ls (fun ls => kI ls (fun x3 ls => kI ls (fun x4 ls => kJ ls (fun x5 ls => kJ ls (fun x7 ls => kI ls (fun x9 ls => kI ls (fun x10 ls => kZ ls (fun ls => kZ ls (fun ls => kZ ls (fun ls => kZ ls (fun ls => kE ls (Q x0 x1 x3 x4 x5 x7 x9 x10 τ))))))))))))))
theorem kq_8009_85 {C : px_C} {k : Option px_V → px_M → Prop} {Q : Nat → Int32 → Int32 → Int32 → Int64 → Int64 → Int32 → Int32 → px_M → Prop} (H : ∀ (x0 : Nat) (x1 : Int32) (x3 : Int32) (x4 : Int32) (x5 : Int64) (x7 : Int64) (x9 : Int32) (x10 : Int32) (τ : px_M), Q x0 x1 x3 x4 x5 x7 x9 x10 τ → ∀ (z2 : Option px_V) (z11 : Option px_V) (z12 : Option px_V) (z13 : Option px_V) (z14 : Option px_V), px_W C k 85 [some (.inr (.inr (some x0))), some (.inl x1), z2, some (.inl x3), some (.inl x4), some (.inr (.inl x5)), none, some (.inr (.inl x7)), none, some (.inl x9), some (.inl x10), z11, z12, z13, z14] [] τ) : ∀ ls st τ, kp_8009_85 Q ls st τ → px_W C k 85 ls st τ := by
  intro ls st τ hz
  obtain ⟨ez, h0⟩ := hz
  obtain ⟨x0, l0, e0, h1⟩ := kN_sp h0
  obtain ⟨x1, l1, e1, h2⟩ := kI_sp h1
  obtain ⟨z2, l2, e2, h3⟩ := kZ_sp h2
  obtain ⟨x3, l3, e3, h4⟩ := kI_sp h3
  obtain ⟨x4, l4, e4, h5⟩ := kI_sp h4
  obtain ⟨x5, l5, e5, h6⟩ := kJ_sp h5
  obtain ⟨x7, l6, e6, h7⟩ := kJ_sp h6
  obtain ⟨x9, l7, e7, h8⟩ := kI_sp h7
  obtain ⟨x10, l8, e8, h9⟩ := kI_sp h8
  obtain ⟨z11, l9, e9, h10⟩ := kZ_sp h9
  obtain ⟨z12, l10, e10, h11⟩ := kZ_sp h10
  obtain ⟨z13, l11, e11, h12⟩ := kZ_sp h11
  obtain ⟨z14, l12, e12, h13⟩ := kZ_sp h12
  obtain ⟨ey, hy⟩ := kE_sp h13
  subst ez
  subst ey
  subst e12
  subst e11
  subst e10
  subst e9
  subst e8
  subst e7
  subst e6
  subst e5
  subst e4
  subst e3
  subst e2
  subst e1
  subst e0
  exact H x0 x1 x3 x4 x5 x7 x9 x10 τ hy z2 z11 z12 z13 z14
def kp_8009_72 (Q : Nat → Int32 → Int32 → Int32 → Int64 → Int64 → Int32 → Int32 → Int32 → px_M → Prop) : px_P := fun ls st τ => st = [] ∧ kN ls (fun x0 ls => kI ls (fun x1 ls => kZ ls (fun ls => kI ls (fun x3 ls => kI ls (fun x4 ls => kJ ls (fun x5 ls => kJ ls (fun x7 ls => kI ls (fun x9 ls => kI ls (fun x10 ls => kI ls (fun x11 ls => kZ ls (fun ls => kZ ls (fun ls => kZ ls (fun ls => kE ls (Q x0 x1 x3 x4 x5 x7 x9 x10 x11 τ))))))))))))))
theorem kq_8009_72 {C : px_C} {k : Option px_V → px_M → Prop} {Q : Nat → Int32 → Int32 → Int32 → Int64 → Int64 → Int32 → Int32 → Int32 → px_M → Prop} (H : ∀ (x0 : Nat) (x1 : Int32) (x3 : Int32) (x4 : Int32) (x5 : Int64) (x7 : Int64) (x9 : Int32) (x10 : Int32) (x11 : Int32) (τ : px_M), Q x0 x1 x3 x4 x5 x7 x9 x10 x11 τ → ∀ (z2 : Option px_V) (z12 : Option px_V) (z13 : Option px_V) (z14 : Option px_V), px_W C k 72 [some (.inr (.inr (some x0))), some (.inl x1), z2, some (.inl x3), some (.inl x4), some (.inr (.inl x5)), none, some (.inr (.inl x7)), none, some (.inl x9), some (.inl x10), some (.inl x11), z12, z13, z14] [] τ) : ∀ ls st τ, kp_8009_72 Q ls st τ → px_W C k 72 ls st τ := by
  intro ls st τ hz
  obtain ⟨ez, h0⟩ := hz
  obtain ⟨x0, l0, e0, h1⟩ := kN_sp h0
  obtain ⟨x1, l1, e1, h2⟩ := kI_sp h1
  obtain ⟨z2, l2, e2, h3⟩ := kZ_sp h2
  obtain ⟨x3, l3, e3, h4⟩ := kI_sp h3
  obtain ⟨x4, l4, e4, h5⟩ := kI_sp h4
  obtain ⟨x5, l5, e5, h6⟩ := kJ_sp h5
  obtain ⟨x7, l6, e6, h7⟩ := kJ_sp h6
  obtain ⟨x9, l7, e7, h8⟩ := kI_sp h7
  obtain ⟨x10, l8, e8, h9⟩ := kI_sp h8
  obtain ⟨x11, l9, e9, h10⟩ := kI_sp h9
  obtain ⟨z12, l10, e10, h11⟩ := kZ_sp h10
  obtain ⟨z13, l11, e11, h12⟩ := kZ_sp h11
  obtain ⟨z14, l12, e12, h13⟩ := kZ_sp h12
  obtain ⟨ey, hy⟩ := kE_sp h13
  subst ez
  subst ey
  subst e12
  subst e11
  subst e10
  subst e9
  subst e8
  subst e7
  subst e6
  subst e5
  subst e4
  subst e3
  subst e2
  subst e1
  subst e0
  exact H x0 x1 x3 x4 x5 x7 x9 x10 x11 τ hy z2 z12 z13 z14
def kp_8009_57 (Q : Nat → Int32 → Int32 → Int32 → Int64 → Int64 → Int32 → Int32 → Int32 → px_M → Prop) : px_P := fun ls st τ => st = [] ∧ kN ls (fun x0 ls => kI ls (fun x1 ls => kZ ls (fun ls => kI ls (fun x3 ls => kI ls (fun x4 ls => kJ ls (fun x5 ls => kJ ls (fun x7 ls => kI ls (fun x9 ls => kI ls (fun x10 ls => kI ls (fun x11 ls => kZ ls (fun ls => kZ ls (fun ls => kZ ls (fun ls => kE ls (Q x0 x1 x3 x4 x5 x7 x9 x10 x11 τ))))))))))))))
theorem kq_8009_57 {C : px_C} {k : Option px_V → px_M → Prop} {Q : Nat → Int32 → Int32 → Int32 → Int64 → Int64 → Int32 → Int32 → Int32 → px_M → Prop} (H : ∀ (x0 : Nat) (x1 : Int32) (x3 : Int32) (x4 : Int32) (x5 : Int64) (x7 : Int64) (x9 : Int32) (x10 : Int32) (x11 : Int32) (τ : px_M), Q x0 x1 x3 x4 x5 x7 x9 x10 x11 τ → ∀ (z2 : Option px_V) (z12 : Option px_V) (z13 : Option px_V) (z14 : Option px_V), px_W C k 57 [some (.inr (.inr (some x0))), some (.inl x1), z2, some (.inl x3), some (.inl x4), some (.inr (.inl x5)), none, some (.inr (.inl x7)), none, some (.inl x9), some (.inl x10), some (.inl x11), z12, z13, z14] [] τ) : ∀ ls st τ, kp_8009_57 Q ls st τ → px_W C k 57 ls st τ := by
  intro ls st τ hz
  obtain ⟨ez, h0⟩ := hz
  obtain ⟨x0, l0, e0, h1⟩ := kN_sp h0
  obtain ⟨x1, l1, e1, h2⟩ := kI_sp h1
  obtain ⟨z2, l2, e2, h3⟩ := kZ_sp h2
  obtain ⟨x3, l3, e3, h4⟩ := kI_sp h3
  obtain ⟨x4, l4, e4, h5⟩ := kI_sp h4
  obtain ⟨x5, l5, e5, h6⟩ := kJ_sp h5
  obtain ⟨x7, l6, e6, h7⟩ := kJ_sp h6
  obtain ⟨x9, l7, e7, h8⟩ := kI_sp h7
  obtain ⟨x10, l8, e8, h9⟩ := kI_sp h8
  obtain ⟨x11, l9, e9, h10⟩ := kI_sp h9
  obtain ⟨z12, l10, e10, h11⟩ := kZ_sp h10
  obtain ⟨z13, l11, e11, h12⟩ := kZ_sp h11
  obtain ⟨z14, l12, e12, h13⟩ := kZ_sp h12
  obtain ⟨ey, hy⟩ := kE_sp h13
  subst ez
  subst ey
  subst e12
  subst e11
  subst e10
  subst e9
  subst e8
  subst e7
  subst e6
  subst e5
  subst e4
  subst e3
  subst e2
  subst e1
  subst e0
  exact H x0 x1 x3 x4 x5 x7 x9 x10 x11 τ hy z2 z12 z13 z14
def kp_8009_45 (Q : Nat → Int32 → Int32 → Int32 → Int64 → Int64 → Int32 → Int32 → px_M → Prop) : px_P := fun ls st τ => st = [] ∧ kN ls (fun x0 ls => kI ls (fun x1 ls => kZ ls (fun ls => kI ls (fun x3 ls => kI ls (fun x4 ls => kJ ls (fun x5 ls => kJ ls (fun x7 ls => kI ls (fun x9 ls => kI ls (fun x10 ls => kZ ls (fun ls => kZ ls (fun ls => kZ ls (fun ls => kZ ls (fun ls => kE ls (Q x0 x1 x3 x4 x5 x7 x9 x10 τ))))))))))))))
theorem kq_8009_45 {C : px_C} {k : Option px_V → px_M → Prop} {Q : Nat → Int32 → Int32 → Int32 → Int64 → Int64 → Int32 → Int32 → px_M → Prop} (H : ∀ (x0 : Nat) (x1 : Int32) (x3 : Int32) (x4 : Int32) (x5 : Int64) (x7 : Int64) (x9 : Int32) (x10 : Int32) (τ : px_M), Q x0 x1 x3 x4 x5 x7 x9 x10 τ → ∀ (z2 : Option px_V) (z11 : Option px_V) (z12 : Option px_V) (z13 : Option px_V) (z14 : Option px_V), px_W C k 45 [some (.inr (.inr (some x0))), some (.inl x1), z2, some (.inl x3), some (.inl x4), some (.inr (.inl x5)), none, some (.inr (.inl x7)), none, some (.inl x9), some (.inl x10), z11, z12, z13, z14] [] τ) : ∀ ls st τ, kp_8009_45 Q ls st τ → px_W C k 45 ls st τ := by
  intro ls st τ hz
  obtain ⟨ez, h0⟩ := hz
  obtain ⟨x0, l0, e0, h1⟩ := kN_sp h0
  obtain ⟨x1, l1, e1, h2⟩ := kI_sp h1
  obtain ⟨z2, l2, e2, h3⟩ := kZ_sp h2
  obtain ⟨x3, l3, e3, h4⟩ := kI_sp h3
  obtain ⟨x4, l4, e4, h5⟩ := kI_sp h4
  obtain ⟨x5, l5, e5, h6⟩ := kJ_sp h5
  obtain ⟨x7, l6, e6, h7⟩ := kJ_sp h6
  obtain ⟨x9, l7, e7, h8⟩ := kI_sp h7
  obtain ⟨x10, l8, e8, h9⟩ := kI_sp h8
  obtain ⟨z11, l9, e9, h10⟩ := kZ_sp h9
  obtain ⟨z12, l10, e10, h11⟩ := kZ_sp h10
  obtain ⟨z13, l11, e11, h12⟩ := kZ_sp h11
  obtain ⟨z14, l12, e12, h13⟩ := kZ_sp h12
  obtain ⟨ey, hy⟩ := kE_sp h13
  subst ez
  subst ey
  subst e12
  subst e11
  subst e10
  subst e9
  subst e8
  subst e7
  subst e6
  subst e5
  subst e4
  subst e3
  subst e2
  subst e1
  subst e0
  exact H x0 x1 x3 x4 x5 x7 x9 x10 τ hy z2 z11 z12 z13 z14
def kp_8009_24 (Q : Nat → Int32 → Int32 → Int32 → Int64 → Int64 → Int32 → px_M → Prop) : px_P := fun ls st τ => st = [] ∧ kN ls (fun x0 ls => kI ls (fun x1 ls => kZ ls (fun ls => kI ls (fun x3 ls => kI ls (fun x4 ls => kJ ls (fun x5 ls => kJ ls (fun x7 ls => kI ls (fun x9 ls => kZ ls (fun ls => kZ ls (fun ls => kZ ls (fun ls => kZ ls (fun ls => kZ ls (fun ls => kE ls (Q x0 x1 x3 x4 x5 x7 x9 τ))))))))))))))
theorem kq_8009_24 {C : px_C} {k : Option px_V → px_M → Prop} {Q : Nat → Int32 → Int32 → Int32 → Int64 → Int64 → Int32 → px_M → Prop} (H : ∀ (x0 : Nat) (x1 : Int32) (x3 : Int32) (x4 : Int32) (x5 : Int64) (x7 : Int64) (x9 : Int32) (τ : px_M), Q x0 x1 x3 x4 x5 x7 x9 τ → ∀ (z2 : Option px_V) (z10 : Option px_V) (z11 : Option px_V) (z12 : Option px_V) (z13 : Option px_V) (z14 : Option px_V), px_W C k 24 [some (.inr (.inr (some x0))), some (.inl x1), z2, some (.inl x3), some (.inl x4), some (.inr (.inl x5)), none, some (.inr (.inl x7)), none, some (.inl x9), z10, z11, z12, z13, z14] [] τ) : ∀ ls st τ, kp_8009_24 Q ls st τ → px_W C k 24 ls st τ := by
  intro ls st τ hz
  obtain ⟨ez, h0⟩ := hz
  obtain ⟨x0, l0, e0, h1⟩ := kN_sp h0
  obtain ⟨x1, l1, e1, h2⟩ := kI_sp h1
  obtain ⟨z2, l2, e2, h3⟩ := kZ_sp h2
  obtain ⟨x3, l3, e3, h4⟩ := kI_sp h3
  obtain ⟨x4, l4, e4, h5⟩ := kI_sp h4
  obtain ⟨x5, l5, e5, h6⟩ := kJ_sp h5
  obtain ⟨x7, l6, e6, h7⟩ := kJ_sp h6
  obtain ⟨x9, l7, e7, h8⟩ := kI_sp h7
  obtain ⟨z10, l8, e8, h9⟩ := kZ_sp h8
  obtain ⟨z11, l9, e9, h10⟩ := kZ_sp h9
  obtain ⟨z12, l10, e10, h11⟩ := kZ_sp h10
  obtain ⟨z13, l11, e11, h12⟩ := kZ_sp h11
  obtain ⟨z14, l12, e12, h13⟩ := kZ_sp h12
  obtain ⟨ey, hy⟩ := kE_sp h13
  subst ez
  subst ey
  subst e12
  subst e11
  subst e10
  subst e9
  subst e8
  subst e7
  subst e6
  subst e5
  subst e4
  subst e3
  subst e2
  subst e1
  subst e0
  exact H x0 x1 x3 x4 x5 x7 x9 τ hy z2 z10 z11 z12 z13 z14
def kp_8009_10 (Q : px_M → Prop) : px_P := fun ls st τ => st = [] ∧ kZ ls (fun ls => kZ ls (fun ls => kZ ls (fun ls => kZ ls (fun ls => kZ ls (fun ls => kZ ls (fun ls => kZ ls (fun ls => kZ ls (fun ls => kZ ls (fun ls => kZ ls (fun ls => kZ ls (fun ls => kZ ls (fun ls => kZ ls (fun ls => kZ ls (fun ls => kZ ls (fun ls => kE ls (Q τ))))))))))))))))
theorem kq_8009_10 {C : px_C} {k : Option px_V → px_M → Prop} {Q : px_M → Prop} (H : ∀ (τ : px_M), Q τ → ∀ (z0 : Option px_V) (z1 : Option px_V) (z2 : Option px_V) (z3 : Option px_V) (z4 : Option px_V) (z5 : Option px_V) (z6 : Option px_V) (z7 : Option px_V) (z8 : Option px_V) (z9 : Option px_V) (z10 : Option px_V) (z11 : Option px_V) (z12 : Option px_V) (z13 : Option px_V) (z14 : Option px_V), px_W C k 10 [z0, z1, z2, z3, z4, z5, z6, z7, z8, z9, z10, z11, z12, z13, z14] [] τ) : ∀ ls st τ, kp_8009_10 Q ls st τ → px_W C k 10 ls st τ := by
  intro ls st τ hz
  obtain ⟨ez, h0⟩ := hz
  obtain ⟨z0, l0, e0, h1⟩ := kZ_sp h0
  obtain ⟨z1, l1, e1, h2⟩ := kZ_sp h1
  obtain ⟨z2, l2, e2, h3⟩ := kZ_sp h2
  obtain ⟨z3, l3, e3, h4⟩ := kZ_sp h3
  obtain ⟨z4, l4, e4, h5⟩ := kZ_sp h4
  obtain ⟨z5, l5, e5, h6⟩ := kZ_sp h5
  obtain ⟨z6, l6, e6, h7⟩ := kZ_sp h6
  obtain ⟨z7, l7, e7, h8⟩ := kZ_sp h7
  obtain ⟨z8, l8, e8, h9⟩ := kZ_sp h8
  obtain ⟨z9, l9, e9, h10⟩ := kZ_sp h9
  obtain ⟨z10, l10, e10, h11⟩ := kZ_sp h10
  obtain ⟨z11, l11, e11, h12⟩ := kZ_sp h11
  obtain ⟨z12, l12, e12, h13⟩ := kZ_sp h12
  obtain ⟨z13, l13, e13, h14⟩ := kZ_sp h13
  obtain ⟨z14, l14, e14, h15⟩ := kZ_sp h14
  obtain ⟨ey, hy⟩ := kE_sp h15
  subst ez
  subst ey
  subst e14
  subst e13
  subst e12
  subst e11
  subst e10
  subst e9
  subst e8
  subst e7
  subst e6
  subst e5
  subst e4
  subst e3
  subst e2
  subst e1
  subst e0
  exact H τ hy z0 z1 z2 z3 z4 z5 z6 z7 z8 z9 z10 z11 z12 z13 z14
set_option maxHeartbeats 4000000 in
set_option maxRecDepth 100000 in
theorem rl_8009_209 {C : px_C} (hn : px_nd (px_tb C)) {h : Nat} (hh : 4 ≤ h) (hC : px_ok C pn_i8009 h) {g8009 : px_M → Nat → Int32 → Int32 → Int32 → Option (Int64 × px_M)} (hg8009 : px_Ok (px_tb C) pn_i8009 (h - 1) (Sg_8009 g8009)) {k : Option px_V → px_M → Prop} {x4 : Int32} {x5 : Int64} {x7 : Int64} {σ : px_M} (hs : oW (f_8009_209 (px_tb C) g8009 σ x4 x5 x7) (fun q => k (some (.inr (.inl q.1))) q.2)) : ∀ (z0 : Option px_V) (z1 : Option px_V) (z2 : Option px_V) (z3 : Option px_V) (z9 : Option px_V) (z10 : Option px_V) (z11 : Option px_V) (z12 : Option px_V) (z13 : Option px_V) (z14 : Option px_V), px_W C k 209 [z0, z1, z2, z3, some (.inl x4), some (.inr (.inl x5)), none, some (.inr (.inl x7)), none, z9, z10, z11, z12, z13, z14] [] σ := by
  intro z0 z1 z2 z3 z9 z10 z11 z12 z13 z14
  refine px_runH (h - 1) ck_8009 [] [] 80 15 (some .long) rfl rfl hC px_nosp (by omega) px_nocut (fun G Jf hG hJf => ?_)
  unfold f_8009_209 at hs
  by_cases hc0 : x4 = nI 0
  · replace hs := bW_t hs hc0
    simp (implicitDefEqProofs := false) only [↓hG, ↓hJf, ↓px_vc, ↓px_ex, ↓px_jp, ↓rq_gi_0, ↓rq_gi_S, ↓rq_gl_0, ↓rq_gl_S, ↓rq_gr_0, ↓rq_gr_S, ↓rq_s1_0, ↓rq_s1_1, ↓rq_s1_S, ↓rq_s2_0, ↓rq_s2_1, ↓rq_s2_S, ↓rq_nl_n, ↓rq_nl_i, ↓rq_nl_l, ↓rq_nl_r, ↓rq_i1_s, ↓rq_l1_s, ↓r1_s, ↓rq_q1_s, ↓rq_i2_s, ↓rq_l2_s, ↓rq_il_s, ↓rq_d0_s, ↓rq_d1_i, ↓rq_d1_r, ↓rq_d2_l, ↓rq_d2_ii, ↓rq_d2_ir, ↓px_pop, ↓px_sp, ↓px_rd, ↓px_rf, ↓pn_xf, ↓rq_pt_0, ↓rq_pt_1, ↓rq_pt_2, ↓rq_pt_3, ↓px_sw, ↓pn_SW, ↓px_ma, ↓reduceIte, Nat.reduceEqDiff, Nat.reduceAdd, Nat.reduceSub, ↓Option.toList_some, ↓Option.toList_none, ↓List.cons_append, ↓List.nil_append, ↓kI_s, ↓kJ_s, ↓kN_s, ↓kO_s, ↓kZ_s, ↓kE_s, ↓an_rfl, ↓bt1 n00, ↓bt2 n00, ↓bf1 n10, ↓bf2 n10, ↓an_sz0, ↓an_sz1, ↓an_sz2, ↓an_sz3, ↓an_sz4, ↓an_ri, ↓an_rb0, ↓an_rb1, ↓an_b0, ↓an_b1, true_and, ↓ai_0s, ↓al_0s, ↓av_0s, ↓aq_0s, ↓ai_1s, ↓al_1s, ↓av_1s, ↓aq_1s, ↓ai_2s, ↓al_2s, ↓av_2s, ↓aq_2s, ↓ai_3s, ↓al_3s, ↓av_3s, ↓aq_3s, ↓ai_4s, ↓al_4s, ↓av_4s, ↓aq_4s, ↓ai_5s, ↓al_5s, ↓av_5s, ↓aq_5s, ↓ai_6s, ↓al_6s, ↓av_6s, ↓aq_6s, ↓ai_7s, ↓al_7s, ↓av_7s, ↓aq_7s, ↓an_l15, ↓bk_8009, ↓bt1 hc0, ↓bt2 hc0]
    rw [oW_some] at hs
    exact hs
  · replace hs := bW_f hs hc0
    simp (implicitDefEqProofs := false) only [↓hG, ↓hJf, ↓px_vc, ↓px_ex, ↓px_jp, ↓rq_gi_0, ↓rq_gi_S, ↓rq_gl_0, ↓rq_gl_S, ↓rq_gr_0, ↓rq_gr_S, ↓rq_s1_0, ↓rq_s1_1, ↓rq_s1_S, ↓rq_s2_0, ↓rq_s2_1, ↓rq_s2_S, ↓rq_nl_n, ↓rq_nl_i, ↓rq_nl_l, ↓rq_nl_r, ↓rq_i1_s, ↓rq_l1_s, ↓r1_s, ↓rq_q1_s, ↓rq_i2_s, ↓rq_l2_s, ↓rq_il_s, ↓rq_d0_s, ↓rq_d1_i, ↓rq_d1_r, ↓rq_d2_l, ↓rq_d2_ii, ↓rq_d2_ir, ↓px_pop, ↓px_sp, ↓px_rd, ↓px_rf, ↓pn_xf, ↓rq_pt_0, ↓rq_pt_1, ↓rq_pt_2, ↓rq_pt_3, ↓px_sw, ↓pn_SW, ↓px_ma, ↓reduceIte, Nat.reduceEqDiff, Nat.reduceAdd, Nat.reduceSub, ↓Option.toList_some, ↓Option.toList_none, ↓List.cons_append, ↓List.nil_append, ↓kI_s, ↓kJ_s, ↓kN_s, ↓kO_s, ↓kZ_s, ↓kE_s, ↓an_rfl, ↓bt1 n00, ↓bt2 n00, ↓bf1 n10, ↓bf2 n10, ↓an_sz0, ↓an_sz1, ↓an_sz2, ↓an_sz3, ↓an_sz4, ↓an_ri, ↓an_rb0, ↓an_rb1, ↓an_b0, ↓an_b1, true_and, ↓ai_0s, ↓al_0s, ↓av_0s, ↓aq_0s, ↓ai_1s, ↓al_1s, ↓av_1s, ↓aq_1s, ↓ai_2s, ↓al_2s, ↓av_2s, ↓aq_2s, ↓ai_3s, ↓al_3s, ↓av_3s, ↓aq_3s, ↓ai_4s, ↓al_4s, ↓av_4s, ↓aq_4s, ↓ai_5s, ↓al_5s, ↓av_5s, ↓aq_5s, ↓ai_6s, ↓al_6s, ↓av_6s, ↓aq_6s, ↓ai_7s, ↓al_7s, ↓av_7s, ↓aq_7s, ↓an_l15, ↓bk_8009, ↓bf1 hc0, ↓bf2 hc0]
    rw [oW_some] at hs
    exact hs
set_option maxHeartbeats 4000000 in
set_option maxRecDepth 100000 in
theorem rl_8009_203 {C : px_C} (hn : px_nd (px_tb C)) {h : Nat} (hh : 4 ≤ h) (hC : px_ok C pn_i8009 h) {g8009 : px_M → Nat → Int32 → Int32 → Int32 → Option (Int64 × px_M)} (hg8009 : px_Ok (px_tb C) pn_i8009 (h - 1) (Sg_8009 g8009)) {k : Option px_V → px_M → Prop} {x0 : Nat} {x1 : Int32} {x3 : Int32} {x4 : Int32} {x5 : Int64} {x7 : Int64} {x9 : Int32} {σ : px_M} (hs : oW (f_8009_203 (px_tb C) g8009 σ x0 x1 x3 x4 x5 x7 x9) (Sum.elim (fun s : Int32 × Int64 × Int64 × Int32 × px_M => ∀ (z2 : Option px_V) (z10 : Option px_V) (z11 : Option px_V) (z12 : Option px_V) (z13 : Option px_V) (z14 : Option px_V), px_W C k 24 [some (.inr (.inr (some x0))), some (.inl x1), z2, some (.inl x3), some (.inl s.1), some (.inr (.inl s.2.1)), none, some (.inr (.inl s.2.2.1)), none, some (.inl s.2.2.2.1), z10, z11, z12, z13, z14] [] s.2.2.2.2) (fun q => k (some (.inr (.inl q.1))) q.2))) : ∀ (z2 : Option px_V) (z10 : Option px_V) (z11 : Option px_V) (z12 : Option px_V) (z13 : Option px_V) (z14 : Option px_V), px_W C k 203 [some (.inr (.inr (some x0))), some (.inl x1), z2, some (.inl x3), some (.inl x4), some (.inr (.inl x5)), none, some (.inr (.inl x7)), none, some (.inl x9), z10, z11, z12, z13, z14] [] σ := by
  intro z2 z10 z11 z12 z13 z14
  refine px_runH (h - 1) ck_8009 [] [(24, kp_8009_24 (fun y0 y1 y3 y4 y5 y7 y9 τ => y0 = x0 ∧ y1 = x1 ∧ y3 = x3 ∧ (fun s : Int32 × Int64 × Int64 × Int32 × px_M => ∀ (z2 : Option px_V) (z10 : Option px_V) (z11 : Option px_V) (z12 : Option px_V) (z13 : Option px_V) (z14 : Option px_V), px_W C k 24 [some (.inr (.inr (some x0))), some (.inl x1), z2, some (.inl x3), some (.inl s.1), some (.inr (.inl s.2.1)), none, some (.inr (.inl s.2.2.1)), none, some (.inl s.2.2.2.1), z10, z11, z12, z13, z14] [] s.2.2.2.2) (y4, y5, y7, y9, τ)))] 80 15 (some .long) rfl rfl hC px_nosp (by omega) (px_cut1 (kq_8009_24 (fun y0 y1 y3 y4 y5 y7 y9 τ hq => by obtain ⟨rfl, rfl, rfl, hq⟩ := hq; exact hq)) px_nocut) (fun G Jf hG hJf => ?_)
  unfold f_8009_203 at hs
  simp (implicitDefEqProofs := false) only [↓hG, ↓hJf, ↓px_vc, ↓px_ex, ↓px_jp, ↓rq_gi_0, ↓rq_gi_S, ↓rq_gl_0, ↓rq_gl_S, ↓rq_gr_0, ↓rq_gr_S, ↓rq_s1_0, ↓rq_s1_1, ↓rq_s1_S, ↓rq_s2_0, ↓rq_s2_1, ↓rq_s2_S, ↓rq_nl_n, ↓rq_nl_i, ↓rq_nl_l, ↓rq_nl_r, ↓rq_i1_s, ↓rq_l1_s, ↓r1_s, ↓rq_q1_s, ↓rq_i2_s, ↓rq_l2_s, ↓rq_il_s, ↓rq_d0_s, ↓rq_d1_i, ↓rq_d1_r, ↓rq_d2_l, ↓rq_d2_ii, ↓rq_d2_ir, ↓px_pop, ↓px_sp, ↓px_rd, ↓px_rf, ↓pn_xf, ↓rq_pt_0, ↓rq_pt_1, ↓rq_pt_2, ↓rq_pt_3, ↓px_sw, ↓pn_SW, ↓px_ma, ↓reduceIte, Nat.reduceEqDiff, Nat.reduceAdd, Nat.reduceSub, ↓Option.toList_some, ↓Option.toList_none, ↓List.cons_append, ↓List.nil_append, ↓kI_s, ↓kJ_s, ↓kN_s, ↓kO_s, ↓kZ_s, ↓kE_s, ↓an_rfl, ↓bt1 n00, ↓bt2 n00, ↓bf1 n10, ↓bf2 n10, ↓an_sz0, ↓an_sz1, ↓an_sz2, ↓an_sz3, ↓an_sz4, ↓an_ri, ↓an_rb0, ↓an_rb1, ↓an_b0, ↓an_b1, true_and, ↓ai_0s, ↓al_0s, ↓av_0s, ↓aq_0s, ↓ai_1s, ↓al_1s, ↓av_1s, ↓aq_1s, ↓ai_2s, ↓al_2s, ↓av_2s, ↓aq_2s, ↓ai_3s, ↓al_3s, ↓av_3s, ↓aq_3s, ↓ai_4s, ↓al_4s, ↓av_4s, ↓aq_4s, ↓ai_5s, ↓al_5s, ↓av_5s, ↓aq_5s, ↓ai_6s, ↓al_6s, ↓av_6s, ↓aq_6s, ↓ai_7s, ↓al_7s, ↓av_7s, ↓aq_7s, ↓an_l15, ↓bk_8009, ↓kp_8009_24]
  rw [oW_some] at hs
  exact hs
set_option maxHeartbeats 4000000 in
set_option maxRecDepth 100000 in
theorem rl_8009_184 {C : px_C} (hn : px_nd (px_tb C)) {h : Nat} (hh : 4 ≤ h) (hC : px_ok C pn_i8009 h) {g8009 : px_M → Nat → Int32 → Int32 → Int32 → Option (Int64 × px_M)} (hg8009 : px_Ok (px_tb C) pn_i8009 (h - 1) (Sg_8009 g8009)) {k : Option px_V → px_M → Prop} {x0 : Nat} {x1 : Int32} {x3 : Int32} {x4 : Int32} {x5 : Int64} {x7 : Int64} {x9 : Int32} {x13 : Int32} {x14 : Int32} {σ : px_M} (hs : oW (f_8009_184 (px_tb C) g8009 σ x0 x1 x3 x4 x5 x7 x9 x13 x14) (Sum.elim (fun s : Int32 × Int64 × Int64 × Int32 × px_M => ∀ (z2 : Option px_V) (z10 : Option px_V) (z11 : Option px_V) (z12 : Option px_V) (z13 : Option px_V) (z14 : Option px_V), px_W C k 24 [some (.inr (.inr (some x0))), some (.inl x1), z2, some (.inl x3), some (.inl s.1), some (.inr (.inl s.2.1)), none, some (.inr (.inl s.2.2.1)), none, some (.inl s.2.2.2.1), z10, z11, z12, z13, z14] [] s.2.2.2.2) (fun q => k (some (.inr (.inl q.1))) q.2))) : ∀ (z2 : Option px_V) (z10 : Option px_V) (z11 : Option px_V) (z12 : Option px_V), px_W C k 184 [some (.inr (.inr (some x0))), some (.inl x1), z2, some (.inl x3), some (.inl x4), some (.inr (.inl x5)), none, some (.inr (.inl x7)), none, some (.inl x9), z10, z11, z12, some (.inl x13), some (.inl x14)] [] σ := by
  intro z2 z10 z11 z12
  refine px_runH (h - 1) ck_8009 [(8010, Sg_8010 (f_8010 (px_tb C))), (8011, Sg_8011 (f_8011 (px_tb C)))] [(203, kp_8009_203 (fun y0 y1 y3 y4 y5 y7 y9 τ => y0 = x0 ∧ y1 = x1 ∧ y3 = x3 ∧ oW (f_8009_203 (px_tb C) g8009 τ y0 y1 y3 y4 y5 y7 y9) (Sum.elim (fun s : Int32 × Int64 × Int64 × Int32 × px_M => ∀ (z2 : Option px_V) (z10 : Option px_V) (z11 : Option px_V) (z12 : Option px_V) (z13 : Option px_V) (z14 : Option px_V), px_W C k 24 [some (.inr (.inr (some x0))), some (.inl x1), z2, some (.inl x3), some (.inl s.1), some (.inr (.inl s.2.1)), none, some (.inr (.inl s.2.2.1)), none, some (.inl s.2.2.2.1), z10, z11, z12, z13, z14] [] s.2.2.2.2) (fun q => k (some (.inr (.inl q.1))) q.2))))] 80 15 (some .long) rfl rfl hC (px_sp1 (mf_8010 hn (by omega)) (px_sp1 (mf_8011 hn (by omega)) px_nosp)) (by omega) (px_cut1 (kq_8009_203 (fun y0 y1 y3 y4 y5 y7 y9 τ hq => by obtain ⟨rfl, rfl, rfl, hq⟩ := hq; exact rl_8009_203 hn (by omega) hC hg8009  hq)) px_nocut) (fun G Jf hG hJf => ?_)
  unfold f_8009_184 at hs
  obtain ⟨hc0, hs⟩ := oW_gx hs
  obtain ⟨r1, hc1, hs⟩ := oW_bx hs
  obtain ⟨q2, hc2, hs⟩ := oW_bx hs
  simp (implicitDefEqProofs := false) only [↓hG, ↓hJf, ↓px_vc, ↓px_ex, ↓px_jp, ↓rq_gi_0, ↓rq_gi_S, ↓rq_gl_0, ↓rq_gl_S, ↓rq_gr_0, ↓rq_gr_S, ↓rq_s1_0, ↓rq_s1_1, ↓rq_s1_S, ↓rq_s2_0, ↓rq_s2_1, ↓rq_s2_S, ↓rq_nl_n, ↓rq_nl_i, ↓rq_nl_l, ↓rq_nl_r, ↓rq_i1_s, ↓rq_l1_s, ↓r1_s, ↓rq_q1_s, ↓rq_i2_s, ↓rq_l2_s, ↓rq_il_s, ↓rq_d0_s, ↓rq_d1_i, ↓rq_d1_r, ↓rq_d2_l, ↓rq_d2_ii, ↓rq_d2_ir, ↓px_pop, ↓px_sp, ↓px_rd, ↓px_rf, ↓pn_xf, ↓rq_pt_0, ↓rq_pt_1, ↓rq_pt_2, ↓rq_pt_3, ↓px_sw, ↓pn_SW, ↓px_ma, ↓reduceIte, Nat.reduceEqDiff, Nat.reduceAdd, Nat.reduceSub, ↓Option.toList_some, ↓Option.toList_none, ↓List.cons_append, ↓List.nil_append, ↓kI_s, ↓kJ_s, ↓kN_s, ↓kO_s, ↓kZ_s, ↓kE_s, ↓an_rfl, ↓bt1 n00, ↓bt2 n00, ↓bf1 n10, ↓bf2 n10, ↓an_sz0, ↓an_sz1, ↓an_sz2, ↓an_sz3, ↓an_sz4, ↓an_ri, ↓an_rb0, ↓an_rb1, ↓an_b0, ↓an_b1, true_and, ↓ai_0s, ↓al_0s, ↓av_0s, ↓aq_0s, ↓ai_1s, ↓al_1s, ↓av_1s, ↓aq_1s, ↓ai_2s, ↓al_2s, ↓av_2s, ↓aq_2s, ↓ai_3s, ↓al_3s, ↓av_3s, ↓aq_3s, ↓ai_4s, ↓al_4s, ↓av_4s, ↓aq_4s, ↓ai_5s, ↓al_5s, ↓av_5s, ↓aq_5s, ↓ai_6s, ↓al_6s, ↓av_6s, ↓aq_6s, ↓ai_7s, ↓al_7s, ↓av_7s, ↓aq_7s, ↓an_l15, ↓bk_8009, ↓Sg_8010, ↓Sg_8011, ↓kp_8009_203, ↓an_t hc0, ↓an_rv hc0, ↓oW_e hc1, ↓oW_e hc2]
  exact hs
set_option maxHeartbeats 4000000 in
set_option maxRecDepth 100000 in
theorem rl_8009_165 {C : px_C} (hn : px_nd (px_tb C)) {h : Nat} (hh : 4 ≤ h) (hC : px_ok C pn_i8009 h) {g8009 : px_M → Nat → Int32 → Int32 → Int32 → Option (Int64 × px_M)} (hg8009 : px_Ok (px_tb C) pn_i8009 (h - 1) (Sg_8009 g8009)) {k : Option px_V → px_M → Prop} {x0 : Nat} {x1 : Int32} {x3 : Int32} {x4 : Int32} {x5 : Int64} {x7 : Int64} {x9 : Int32} {x13 : Int32} {x14 : Int32} {σ : px_M} (hs : oW (f_8009_165 (px_tb C) g8009 σ x0 x1 x3 x4 x5 x7 x9 x13 x14) (Sum.elim (fun s : Int32 × Int64 × Int64 × Int32 × px_M => ∀ (z2 : Option px_V) (z10 : Option px_V) (z11 : Option px_V) (z12 : Option px_V) (z13 : Option px_V) (z14 : Option px_V), px_W C k 24 [some (.inr (.inr (some x0))), some (.inl x1), z2, some (.inl x3), some (.inl s.1), some (.inr (.inl s.2.1)), none, some (.inr (.inl s.2.2.1)), none, some (.inl s.2.2.2.1), z10, z11, z12, z13, z14] [] s.2.2.2.2) (fun q => k (some (.inr (.inl q.1))) q.2))) : ∀ (z2 : Option px_V) (z10 : Option px_V) (z11 : Option px_V) (z12 : Option px_V), px_W C k 165 [some (.inr (.inr (some x0))), some (.inl x1), z2, some (.inl x3), some (.inl x4), some (.inr (.inl x5)), none, some (.inr (.inl x7)), none, some (.inl x9), z10, z11, z12, some (.inl x13), some (.inl x14)] [] σ := by
  intro z2 z10 z11 z12
  refine px_runH (h - 1) ck_8009 [(8010, Sg_8010 (f_8010 (px_tb C))), (8011, Sg_8011 (f_8011 (px_tb C)))] [(184, kp_8009_184 (fun y0 y1 y3 y4 y5 y7 y9 y13 y14 τ => y0 = x0 ∧ y1 = x1 ∧ y3 = x3 ∧ oW (f_8009_184 (px_tb C) g8009 τ y0 y1 y3 y4 y5 y7 y9 y13 y14) (Sum.elim (fun s : Int32 × Int64 × Int64 × Int32 × px_M => ∀ (z2 : Option px_V) (z10 : Option px_V) (z11 : Option px_V) (z12 : Option px_V) (z13 : Option px_V) (z14 : Option px_V), px_W C k 24 [some (.inr (.inr (some x0))), some (.inl x1), z2, some (.inl x3), some (.inl s.1), some (.inr (.inl s.2.1)), none, some (.inr (.inl s.2.2.1)), none, some (.inl s.2.2.2.1), z10, z11, z12, z13, z14] [] s.2.2.2.2) (fun q => k (some (.inr (.inl q.1))) q.2))))] 80 15 (some .long) rfl rfl hC (px_sp1 (mf_8010 hn (by omega)) (px_sp1 (mf_8011 hn (by omega)) px_nosp)) (by omega) (px_cut1 (kq_8009_184 (fun y0 y1 y3 y4 y5 y7 y9 y13 y14 τ hq => by obtain ⟨rfl, rfl, rfl, hq⟩ := hq; exact rl_8009_184 hn (by omega) hC hg8009  hq)) px_nocut) (fun G Jf hG hJf => ?_)
  unfold f_8009_165 at hs
  obtain ⟨hc0, hs⟩ := oW_gx hs
  obtain ⟨r1, hc1, hs⟩ := oW_bx hs
  obtain ⟨q2, hc2, hs⟩ := oW_bx hs
  simp (implicitDefEqProofs := false) only [↓hG, ↓hJf, ↓px_vc, ↓px_ex, ↓px_jp, ↓rq_gi_0, ↓rq_gi_S, ↓rq_gl_0, ↓rq_gl_S, ↓rq_gr_0, ↓rq_gr_S, ↓rq_s1_0, ↓rq_s1_1, ↓rq_s1_S, ↓rq_s2_0, ↓rq_s2_1, ↓rq_s2_S, ↓rq_nl_n, ↓rq_nl_i, ↓rq_nl_l, ↓rq_nl_r, ↓rq_i1_s, ↓rq_l1_s, ↓r1_s, ↓rq_q1_s, ↓rq_i2_s, ↓rq_l2_s, ↓rq_il_s, ↓rq_d0_s, ↓rq_d1_i, ↓rq_d1_r, ↓rq_d2_l, ↓rq_d2_ii, ↓rq_d2_ir, ↓px_pop, ↓px_sp, ↓px_rd, ↓px_rf, ↓pn_xf, ↓rq_pt_0, ↓rq_pt_1, ↓rq_pt_2, ↓rq_pt_3, ↓px_sw, ↓pn_SW, ↓px_ma, ↓reduceIte, Nat.reduceEqDiff, Nat.reduceAdd, Nat.reduceSub, ↓Option.toList_some, ↓Option.toList_none, ↓List.cons_append, ↓List.nil_append, ↓kI_s, ↓kJ_s, ↓kN_s, ↓kO_s, ↓kZ_s, ↓kE_s, ↓an_rfl, ↓bt1 n00, ↓bt2 n00, ↓bf1 n10, ↓bf2 n10, ↓an_sz0, ↓an_sz1, ↓an_sz2, ↓an_sz3, ↓an_sz4, ↓an_ri, ↓an_rb0, ↓an_rb1, ↓an_b0, ↓an_b1, true_and, ↓ai_0s, ↓al_0s, ↓av_0s, ↓aq_0s, ↓ai_1s, ↓al_1s, ↓av_1s, ↓aq_1s, ↓ai_2s, ↓al_2s, ↓av_2s, ↓aq_2s, ↓ai_3s, ↓al_3s, ↓av_3s, ↓aq_3s, ↓ai_4s, ↓al_4s, ↓av_4s, ↓aq_4s, ↓ai_5s, ↓al_5s, ↓av_5s, ↓aq_5s, ↓ai_6s, ↓al_6s, ↓av_6s, ↓aq_6s, ↓ai_7s, ↓al_7s, ↓av_7s, ↓aq_7s, ↓an_l15, ↓bk_8009, ↓Sg_8010, ↓Sg_8011, ↓kp_8009_184, ↓an_t hc0, ↓an_rv hc0, ↓oW_e hc1, ↓oW_e hc2]
  exact hs
set_option maxHeartbeats 4000000 in
set_option maxRecDepth 100000 in
theorem rl_8009_140 {C : px_C} (hn : px_nd (px_tb C)) {h : Nat} (hh : 4 ≤ h) (hC : px_ok C pn_i8009 h) {g8009 : px_M → Nat → Int32 → Int32 → Int32 → Option (Int64 × px_M)} (hg8009 : px_Ok (px_tb C) pn_i8009 (h - 1) (Sg_8009 g8009)) {k : Option px_V → px_M → Prop} {x0 : Nat} {x1 : Int32} {x3 : Int32} {x4 : Int32} {x5 : Int64} {x7 : Int64} {x9 : Int32} {x13 : Int32} {x14 : Int32} {σ : px_M} (hs : oW (f_8009_140 (px_tb C) g8009 σ x0 x1 x3 x4 x5 x7 x9 x13 x14) (Sum.elim (fun s : Int32 × Int64 × Int64 × Int32 × px_M => ∀ (z2 : Option px_V) (z10 : Option px_V) (z11 : Option px_V) (z12 : Option px_V) (z13 : Option px_V) (z14 : Option px_V), px_W C k 24 [some (.inr (.inr (some x0))), some (.inl x1), z2, some (.inl x3), some (.inl s.1), some (.inr (.inl s.2.1)), none, some (.inr (.inl s.2.2.1)), none, some (.inl s.2.2.2.1), z10, z11, z12, z13, z14] [] s.2.2.2.2) (fun q => k (some (.inr (.inl q.1))) q.2))) : ∀ (z2 : Option px_V) (z10 : Option px_V) (z11 : Option px_V) (z12 : Option px_V), px_W C k 140 [some (.inr (.inr (some x0))), some (.inl x1), z2, some (.inl x3), some (.inl x4), some (.inr (.inl x5)), none, some (.inr (.inl x7)), none, some (.inl x9), z10, z11, z12, some (.inl x13), some (.inl x14)] [] σ := by
  intro z2 z10 z11 z12
  refine px_runH (h - 1) ck_8009 [(8009, Sg_8009 g8009)] [(165, kp_8009_165 (fun y0 y1 y3 y4 y5 y7 y9 y13 y14 τ => y0 = x0 ∧ y1 = x1 ∧ y3 = x3 ∧ oW (f_8009_165 (px_tb C) g8009 τ y0 y1 y3 y4 y5 y7 y9 y13 y14) (Sum.elim (fun s : Int32 × Int64 × Int64 × Int32 × px_M => ∀ (z2 : Option px_V) (z10 : Option px_V) (z11 : Option px_V) (z12 : Option px_V) (z13 : Option px_V) (z14 : Option px_V), px_W C k 24 [some (.inr (.inr (some x0))), some (.inl x1), z2, some (.inl x3), some (.inl s.1), some (.inr (.inl s.2.1)), none, some (.inr (.inl s.2.2.1)), none, some (.inl s.2.2.2.1), z10, z11, z12, z13, z14] [] s.2.2.2.2) (fun q => k (some (.inr (.inl q.1))) q.2))))] 80 15 (some .long) rfl rfl hC (px_sp1 (hg8009) px_nosp) (by omega) (px_cut1 (kq_8009_165 (fun y0 y1 y3 y4 y5 y7 y9 y13 y14 τ hq => by obtain ⟨rfl, rfl, rfl, hq⟩ := hq; exact rl_8009_165 hn (by omega) hC hg8009  hq)) px_nocut) (fun G Jf hG hJf => ?_)
  unfold f_8009_140 at hs
  obtain ⟨hc0, hs⟩ := oW_gx hs
  obtain ⟨q1, hc1, hs⟩ := oW_bx hs
  simp (implicitDefEqProofs := false) only [↓hG, ↓hJf, ↓px_vc, ↓px_ex, ↓px_jp, ↓rq_gi_0, ↓rq_gi_S, ↓rq_gl_0, ↓rq_gl_S, ↓rq_gr_0, ↓rq_gr_S, ↓rq_s1_0, ↓rq_s1_1, ↓rq_s1_S, ↓rq_s2_0, ↓rq_s2_1, ↓rq_s2_S, ↓rq_nl_n, ↓rq_nl_i, ↓rq_nl_l, ↓rq_nl_r, ↓rq_i1_s, ↓rq_l1_s, ↓r1_s, ↓rq_q1_s, ↓rq_i2_s, ↓rq_l2_s, ↓rq_il_s, ↓rq_d0_s, ↓rq_d1_i, ↓rq_d1_r, ↓rq_d2_l, ↓rq_d2_ii, ↓rq_d2_ir, ↓px_pop, ↓px_sp, ↓px_rd, ↓px_rf, ↓pn_xf, ↓rq_pt_0, ↓rq_pt_1, ↓rq_pt_2, ↓rq_pt_3, ↓px_sw, ↓pn_SW, ↓px_ma, ↓reduceIte, Nat.reduceEqDiff, Nat.reduceAdd, Nat.reduceSub, ↓Option.toList_some, ↓Option.toList_none, ↓List.cons_append, ↓List.nil_append, ↓kI_s, ↓kJ_s, ↓kN_s, ↓kO_s, ↓kZ_s, ↓kE_s, ↓an_rfl, ↓bt1 n00, ↓bt2 n00, ↓bf1 n10, ↓bf2 n10, ↓an_sz0, ↓an_sz1, ↓an_sz2, ↓an_sz3, ↓an_sz4, ↓an_ri, ↓an_rb0, ↓an_rb1, ↓an_b0, ↓an_b1, true_and, ↓ai_0s, ↓al_0s, ↓av_0s, ↓aq_0s, ↓ai_1s, ↓al_1s, ↓av_1s, ↓aq_1s, ↓ai_2s, ↓al_2s, ↓av_2s, ↓aq_2s, ↓ai_3s, ↓al_3s, ↓av_3s, ↓aq_3s, ↓ai_4s, ↓al_4s, ↓av_4s, ↓aq_4s, ↓ai_5s, ↓al_5s, ↓av_5s, ↓aq_5s, ↓ai_6s, ↓al_6s, ↓av_6s, ↓aq_6s, ↓ai_7s, ↓al_7s, ↓av_7s, ↓aq_7s, ↓an_l15, ↓bk_8009, ↓Sg_8009, ↓kp_8009_165, ↓an_t hc0, ↓an_rv hc0, ↓oW_e hc1]
  exact hs
set_option maxHeartbeats 4000000 in
set_option maxRecDepth 100000 in
theorem rl_8009_123 {C : px_C} (hn : px_nd (px_tb C)) {h : Nat} (hh : 4 ≤ h) (hC : px_ok C pn_i8009 h) {g8009 : px_M → Nat → Int32 → Int32 → Int32 → Option (Int64 × px_M)} (hg8009 : px_Ok (px_tb C) pn_i8009 (h - 1) (Sg_8009 g8009)) {k : Option px_V → px_M → Prop} {x0 : Nat} {x1 : Int32} {x3 : Int32} {x4 : Int32} {x5 : Int64} {x7 : Int64} {x9 : Int32} {x13 : Int32} {x14 : Int32} {σ : px_M} (hs : oW (f_8009_123 (px_tb C) g8009 σ x0 x1 x3 x4 x5 x7 x9 x13 x14) (Sum.elim (fun s : Int32 × Int64 × Int64 × Int32 × px_M => ∀ (z2 : Option px_V) (z10 : Option px_V) (z11 : Option px_V) (z12 : Option px_V) (z13 : Option px_V) (z14 : Option px_V), px_W C k 24 [some (.inr (.inr (some x0))), some (.inl x1), z2, some (.inl x3), some (.inl s.1), some (.inr (.inl s.2.1)), none, some (.inr (.inl s.2.2.1)), none, some (.inl s.2.2.2.1), z10, z11, z12, z13, z14] [] s.2.2.2.2) (fun q => k (some (.inr (.inl q.1))) q.2))) : ∀ (z2 : Option px_V) (z10 : Option px_V) (z11 : Option px_V) (z12 : Option px_V), px_W C k 123 [some (.inr (.inr (some x0))), some (.inl x1), z2, some (.inl x3), some (.inl x4), some (.inr (.inl x5)), none, some (.inr (.inl x7)), none, some (.inl x9), z10, z11, z12, some (.inl x13), some (.inl x14)] [] σ := by
  intro z2 z10 z11 z12
  refine px_runH (h - 1) ck_8009 [(8014, Sg_8014 (f_8014 (px_tb C)))] [(140, kp_8009_140 (fun y0 y1 y3 y4 y5 y7 y9 y13 y14 τ => y0 = x0 ∧ y1 = x1 ∧ y3 = x3 ∧ oW (f_8009_140 (px_tb C) g8009 τ y0 y1 y3 y4 y5 y7 y9 y13 y14) (Sum.elim (fun s : Int32 × Int64 × Int64 × Int32 × px_M => ∀ (z2 : Option px_V) (z10 : Option px_V) (z11 : Option px_V) (z12 : Option px_V) (z13 : Option px_V) (z14 : Option px_V), px_W C k 24 [some (.inr (.inr (some x0))), some (.inl x1), z2, some (.inl x3), some (.inl s.1), some (.inr (.inl s.2.1)), none, some (.inr (.inl s.2.2.1)), none, some (.inl s.2.2.2.1), z10, z11, z12, z13, z14] [] s.2.2.2.2) (fun q => k (some (.inr (.inl q.1))) q.2)))), (165, kp_8009_165 (fun y0 y1 y3 y4 y5 y7 y9 y13 y14 τ => y0 = x0 ∧ y1 = x1 ∧ y3 = x3 ∧ oW (f_8009_165 (px_tb C) g8009 τ y0 y1 y3 y4 y5 y7 y9 y13 y14) (Sum.elim (fun s : Int32 × Int64 × Int64 × Int32 × px_M => ∀ (z2 : Option px_V) (z10 : Option px_V) (z11 : Option px_V) (z12 : Option px_V) (z13 : Option px_V) (z14 : Option px_V), px_W C k 24 [some (.inr (.inr (some x0))), some (.inl x1), z2, some (.inl x3), some (.inl s.1), some (.inr (.inl s.2.1)), none, some (.inr (.inl s.2.2.1)), none, some (.inl s.2.2.2.1), z10, z11, z12, z13, z14] [] s.2.2.2.2) (fun q => k (some (.inr (.inl q.1))) q.2))))] 80 15 (some .long) rfl rfl hC (px_sp1 (mf_8014 hn (by omega)) px_nosp) (by omega) (px_cut1 (kq_8009_140 (fun y0 y1 y3 y4 y5 y7 y9 y13 y14 τ hq => by obtain ⟨rfl, rfl, rfl, hq⟩ := hq; exact rl_8009_140 hn (by omega) hC hg8009  hq)) (px_cut1 (kq_8009_165 (fun y0 y1 y3 y4 y5 y7 y9 y13 y14 τ hq => by obtain ⟨rfl, rfl, rfl, hq⟩ := hq; exact rl_8009_165 hn (by omega) hC hg8009  hq)) px_nocut)) (fun G Jf hG hJf => ?_)
  unfold f_8009_123 at hs
  by_cases hc0 : (nI 12) ≤ (x1 + (nI 1))
  · replace hs := oW_t hs hc0
    simp (implicitDefEqProofs := false) only [↓hG, ↓hJf, ↓px_vc, ↓px_ex, ↓px_jp, ↓rq_gi_0, ↓rq_gi_S, ↓rq_gl_0, ↓rq_gl_S, ↓rq_gr_0, ↓rq_gr_S, ↓rq_s1_0, ↓rq_s1_1, ↓rq_s1_S, ↓rq_s2_0, ↓rq_s2_1, ↓rq_s2_S, ↓rq_nl_n, ↓rq_nl_i, ↓rq_nl_l, ↓rq_nl_r, ↓rq_i1_s, ↓rq_l1_s, ↓r1_s, ↓rq_q1_s, ↓rq_i2_s, ↓rq_l2_s, ↓rq_il_s, ↓rq_d0_s, ↓rq_d1_i, ↓rq_d1_r, ↓rq_d2_l, ↓rq_d2_ii, ↓rq_d2_ir, ↓px_pop, ↓px_sp, ↓px_rd, ↓px_rf, ↓pn_xf, ↓rq_pt_0, ↓rq_pt_1, ↓rq_pt_2, ↓rq_pt_3, ↓px_sw, ↓pn_SW, ↓px_ma, ↓reduceIte, Nat.reduceEqDiff, Nat.reduceAdd, Nat.reduceSub, ↓Option.toList_some, ↓Option.toList_none, ↓List.cons_append, ↓List.nil_append, ↓kI_s, ↓kJ_s, ↓kN_s, ↓kO_s, ↓kZ_s, ↓kE_s, ↓an_rfl, ↓bt1 n00, ↓bt2 n00, ↓bf1 n10, ↓bf2 n10, ↓an_sz0, ↓an_sz1, ↓an_sz2, ↓an_sz3, ↓an_sz4, ↓an_ri, ↓an_rb0, ↓an_rb1, ↓an_b0, ↓an_b1, true_and, ↓ai_0s, ↓al_0s, ↓av_0s, ↓aq_0s, ↓ai_1s, ↓al_1s, ↓av_1s, ↓aq_1s, ↓ai_2s, ↓al_2s, ↓av_2s, ↓aq_2s, ↓ai_3s, ↓al_3s, ↓av_3s, ↓aq_3s, ↓ai_4s, ↓al_4s, ↓av_4s, ↓aq_4s, ↓ai_5s, ↓al_5s, ↓av_5s, ↓aq_5s, ↓ai_6s, ↓al_6s, ↓av_6s, ↓aq_6s, ↓ai_7s, ↓al_7s, ↓av_7s, ↓aq_7s, ↓an_l15, ↓bk_8009, ↓Sg_8014, ↓kp_8009_140, ↓kp_8009_165, ↓bt1 hc0, ↓bt2 hc0]
    exact hs
  · replace hs := oW_f hs hc0
    obtain ⟨hc1, hs⟩ := oW_gx hs
    obtain ⟨q1, hc2, hs⟩ := oW_bx hs
    simp (implicitDefEqProofs := false) only [↓hG, ↓hJf, ↓px_vc, ↓px_ex, ↓px_jp, ↓rq_gi_0, ↓rq_gi_S, ↓rq_gl_0, ↓rq_gl_S, ↓rq_gr_0, ↓rq_gr_S, ↓rq_s1_0, ↓rq_s1_1, ↓rq_s1_S, ↓rq_s2_0, ↓rq_s2_1, ↓rq_s2_S, ↓rq_nl_n, ↓rq_nl_i, ↓rq_nl_l, ↓rq_nl_r, ↓rq_i1_s, ↓rq_l1_s, ↓r1_s, ↓rq_q1_s, ↓rq_i2_s, ↓rq_l2_s, ↓rq_il_s, ↓rq_d0_s, ↓rq_d1_i, ↓rq_d1_r, ↓rq_d2_l, ↓rq_d2_ii, ↓rq_d2_ir, ↓px_pop, ↓px_sp, ↓px_rd, ↓px_rf, ↓pn_xf, ↓rq_pt_0, ↓rq_pt_1, ↓rq_pt_2, ↓rq_pt_3, ↓px_sw, ↓pn_SW, ↓px_ma, ↓reduceIte, Nat.reduceEqDiff, Nat.reduceAdd, Nat.reduceSub, ↓Option.toList_some, ↓Option.toList_none, ↓List.cons_append, ↓List.nil_append, ↓kI_s, ↓kJ_s, ↓kN_s, ↓kO_s, ↓kZ_s, ↓kE_s, ↓an_rfl, ↓bt1 n00, ↓bt2 n00, ↓bf1 n10, ↓bf2 n10, ↓an_sz0, ↓an_sz1, ↓an_sz2, ↓an_sz3, ↓an_sz4, ↓an_ri, ↓an_rb0, ↓an_rb1, ↓an_b0, ↓an_b1, true_and, ↓ai_0s, ↓al_0s, ↓av_0s, ↓aq_0s, ↓ai_1s, ↓al_1s, ↓av_1s, ↓aq_1s, ↓ai_2s, ↓al_2s, ↓av_2s, ↓aq_2s, ↓ai_3s, ↓al_3s, ↓av_3s, ↓aq_3s, ↓ai_4s, ↓al_4s, ↓av_4s, ↓aq_4s, ↓ai_5s, ↓al_5s, ↓av_5s, ↓aq_5s, ↓ai_6s, ↓al_6s, ↓av_6s, ↓aq_6s, ↓ai_7s, ↓al_7s, ↓av_7s, ↓aq_7s, ↓an_l15, ↓bk_8009, ↓Sg_8014, ↓kp_8009_140, ↓kp_8009_165, ↓bf1 hc0, ↓bf2 hc0, ↓an_t hc1, ↓an_rv hc1, ↓oW_e hc2]
    exact hs
set_option maxHeartbeats 4000000 in
set_option maxRecDepth 100000 in
theorem rl_8009_116 {C : px_C} (hn : px_nd (px_tb C)) {h : Nat} (hh : 4 ≤ h) (hC : px_ok C pn_i8009 h) {g8009 : px_M → Nat → Int32 → Int32 → Int32 → Option (Int64 × px_M)} (hg8009 : px_Ok (px_tb C) pn_i8009 (h - 1) (Sg_8009 g8009)) {k : Option px_V → px_M → Prop} {x0 : Nat} {x1 : Int32} {x3 : Int32} {x4 : Int32} {x5 : Int64} {x7 : Int64} {x9 : Int32} {x12 : Int32} {x13 : Int32} {σ : px_M} (hs : oW (f_8009_116 (px_tb C) g8009 σ x0 x1 x3 x4 x5 x7 x9 x12 x13) (Sum.elim (fun s : Int32 × Int64 × Int64 × Int32 × px_M => ∀ (z2 : Option px_V) (z10 : Option px_V) (z11 : Option px_V) (z12 : Option px_V) (z13 : Option px_V) (z14 : Option px_V), px_W C k 24 [some (.inr (.inr (some x0))), some (.inl x1), z2, some (.inl x3), some (.inl s.1), some (.inr (.inl s.2.1)), none, some (.inr (.inl s.2.2.1)), none, some (.inl s.2.2.2.1), z10, z11, z12, z13, z14] [] s.2.2.2.2) (fun q => k (some (.inr (.inl q.1))) q.2))) : ∀ (z2 : Option px_V) (z10 : Option px_V) (z11 : Option px_V) (z14 : Option px_V), px_W C k 116 [some (.inr (.inr (some x0))), some (.inl x1), z2, some (.inl x3), some (.inl x4), some (.inr (.inl x5)), none, some (.inr (.inl x7)), none, some (.inl x9), z10, z11, some (.inl x12), some (.inl x13), z14] [] σ := by
  intro z2 z10 z11 z14
  refine px_runH (h - 1) ck_8009 [] [(123, kp_8009_123 (fun y0 y1 y3 y4 y5 y7 y9 y13 y14 τ => y0 = x0 ∧ y1 = x1 ∧ y3 = x3 ∧ oW (f_8009_123 (px_tb C) g8009 τ y0 y1 y3 y4 y5 y7 y9 y13 y14) (Sum.elim (fun s : Int32 × Int64 × Int64 × Int32 × px_M => ∀ (z2 : Option px_V) (z10 : Option px_V) (z11 : Option px_V) (z12 : Option px_V) (z13 : Option px_V) (z14 : Option px_V), px_W C k 24 [some (.inr (.inr (some x0))), some (.inl x1), z2, some (.inl x3), some (.inl s.1), some (.inr (.inl s.2.1)), none, some (.inr (.inl s.2.2.1)), none, some (.inl s.2.2.2.1), z10, z11, z12, z13, z14] [] s.2.2.2.2) (fun q => k (some (.inr (.inl q.1))) q.2))))] 80 15 (some .long) rfl rfl hC px_nosp (by omega) (px_cut1 (kq_8009_123 (fun y0 y1 y3 y4 y5 y7 y9 y13 y14 τ hq => by obtain ⟨rfl, rfl, rfl, hq⟩ := hq; exact rl_8009_123 hn (by omega) hC hg8009  hq)) px_nocut) (fun G Jf hG hJf => ?_)
  unfold f_8009_116 at hs
  obtain ⟨hc0, hs⟩ := oW_gx hs
  simp (implicitDefEqProofs := false) only [↓hG, ↓hJf, ↓px_vc, ↓px_ex, ↓px_jp, ↓rq_gi_0, ↓rq_gi_S, ↓rq_gl_0, ↓rq_gl_S, ↓rq_gr_0, ↓rq_gr_S, ↓rq_s1_0, ↓rq_s1_1, ↓rq_s1_S, ↓rq_s2_0, ↓rq_s2_1, ↓rq_s2_S, ↓rq_nl_n, ↓rq_nl_i, ↓rq_nl_l, ↓rq_nl_r, ↓rq_i1_s, ↓rq_l1_s, ↓r1_s, ↓rq_q1_s, ↓rq_i2_s, ↓rq_l2_s, ↓rq_il_s, ↓rq_d0_s, ↓rq_d1_i, ↓rq_d1_r, ↓rq_d2_l, ↓rq_d2_ii, ↓rq_d2_ir, ↓px_pop, ↓px_sp, ↓px_rd, ↓px_rf, ↓pn_xf, ↓rq_pt_0, ↓rq_pt_1, ↓rq_pt_2, ↓rq_pt_3, ↓px_sw, ↓pn_SW, ↓px_ma, ↓reduceIte, Nat.reduceEqDiff, Nat.reduceAdd, Nat.reduceSub, ↓Option.toList_some, ↓Option.toList_none, ↓List.cons_append, ↓List.nil_append, ↓kI_s, ↓kJ_s, ↓kN_s, ↓kO_s, ↓kZ_s, ↓kE_s, ↓an_rfl, ↓bt1 n00, ↓bt2 n00, ↓bf1 n10, ↓bf2 n10, ↓an_sz0, ↓an_sz1, ↓an_sz2, ↓an_sz3, ↓an_sz4, ↓an_ri, ↓an_rb0, ↓an_rb1, ↓an_b0, ↓an_b1, true_and, ↓ai_0s, ↓al_0s, ↓av_0s, ↓aq_0s, ↓ai_1s, ↓al_1s, ↓av_1s, ↓aq_1s, ↓ai_2s, ↓al_2s, ↓av_2s, ↓aq_2s, ↓ai_3s, ↓al_3s, ↓av_3s, ↓aq_3s, ↓ai_4s, ↓al_4s, ↓av_4s, ↓aq_4s, ↓ai_5s, ↓al_5s, ↓av_5s, ↓aq_5s, ↓ai_6s, ↓al_6s, ↓av_6s, ↓aq_6s, ↓ai_7s, ↓al_7s, ↓av_7s, ↓aq_7s, ↓an_l15, ↓bk_8009, ↓kp_8009_123, ↓an_t hc0]
  exact hs
set_option maxHeartbeats 4000000 in
set_option maxRecDepth 100000 in
theorem rl_8009_109 {C : px_C} (hn : px_nd (px_tb C)) {h : Nat} (hh : 4 ≤ h) (hC : px_ok C pn_i8009 h) {g8009 : px_M → Nat → Int32 → Int32 → Int32 → Option (Int64 × px_M)} (hg8009 : px_Ok (px_tb C) pn_i8009 (h - 1) (Sg_8009 g8009)) {k : Option px_V → px_M → Prop} {x0 : Nat} {x1 : Int32} {x3 : Int32} {x4 : Int32} {x5 : Int64} {x7 : Int64} {x9 : Int32} {x12 : Int32} {σ : px_M} (hs : oW (f_8009_109 (px_tb C) g8009 σ x0 x1 x3 x4 x5 x7 x9 x12) (Sum.elim (fun s : Int32 × Int64 × Int64 × Int32 × px_M => ∀ (z2 : Option px_V) (z10 : Option px_V) (z11 : Option px_V) (z12 : Option px_V) (z13 : Option px_V) (z14 : Option px_V), px_W C k 24 [some (.inr (.inr (some x0))), some (.inl x1), z2, some (.inl x3), some (.inl s.1), some (.inr (.inl s.2.1)), none, some (.inr (.inl s.2.2.1)), none, some (.inl s.2.2.2.1), z10, z11, z12, z13, z14] [] s.2.2.2.2) (fun q => k (some (.inr (.inl q.1))) q.2))) : ∀ (z2 : Option px_V) (z10 : Option px_V) (z11 : Option px_V) (z13 : Option px_V) (z14 : Option px_V), px_W C k 109 [some (.inr (.inr (some x0))), some (.inl x1), z2, some (.inl x3), some (.inl x4), some (.inr (.inl x5)), none, some (.inr (.inl x7)), none, some (.inl x9), z10, z11, some (.inl x12), z13, z14] [] σ := by
  intro z2 z10 z11 z13 z14
  refine px_runH (h - 1) ck_8009 [] [(116, kp_8009_116 (fun y0 y1 y3 y4 y5 y7 y9 y12 y13 τ => y0 = x0 ∧ y1 = x1 ∧ y3 = x3 ∧ oW (f_8009_116 (px_tb C) g8009 τ y0 y1 y3 y4 y5 y7 y9 y12 y13) (Sum.elim (fun s : Int32 × Int64 × Int64 × Int32 × px_M => ∀ (z2 : Option px_V) (z10 : Option px_V) (z11 : Option px_V) (z12 : Option px_V) (z13 : Option px_V) (z14 : Option px_V), px_W C k 24 [some (.inr (.inr (some x0))), some (.inl x1), z2, some (.inl x3), some (.inl s.1), some (.inr (.inl s.2.1)), none, some (.inr (.inl s.2.2.1)), none, some (.inl s.2.2.2.1), z10, z11, z12, z13, z14] [] s.2.2.2.2) (fun q => k (some (.inr (.inl q.1))) q.2))))] 80 15 (some .long) rfl rfl hC px_nosp (by omega) (px_cut1 (kq_8009_116 (fun y0 y1 y3 y4 y5 y7 y9 y12 y13 τ hq => by obtain ⟨rfl, rfl, rfl, hq⟩ := hq; exact rl_8009_116 hn (by omega) hC hg8009  hq)) px_nocut) (fun G Jf hG hJf => ?_)
  unfold f_8009_109 at hs
  obtain ⟨hc0, hs⟩ := oW_gx hs
  simp (implicitDefEqProofs := false) only [↓hG, ↓hJf, ↓px_vc, ↓px_ex, ↓px_jp, ↓rq_gi_0, ↓rq_gi_S, ↓rq_gl_0, ↓rq_gl_S, ↓rq_gr_0, ↓rq_gr_S, ↓rq_s1_0, ↓rq_s1_1, ↓rq_s1_S, ↓rq_s2_0, ↓rq_s2_1, ↓rq_s2_S, ↓rq_nl_n, ↓rq_nl_i, ↓rq_nl_l, ↓rq_nl_r, ↓rq_i1_s, ↓rq_l1_s, ↓r1_s, ↓rq_q1_s, ↓rq_i2_s, ↓rq_l2_s, ↓rq_il_s, ↓rq_d0_s, ↓rq_d1_i, ↓rq_d1_r, ↓rq_d2_l, ↓rq_d2_ii, ↓rq_d2_ir, ↓px_pop, ↓px_sp, ↓px_rd, ↓px_rf, ↓pn_xf, ↓rq_pt_0, ↓rq_pt_1, ↓rq_pt_2, ↓rq_pt_3, ↓px_sw, ↓pn_SW, ↓px_ma, ↓reduceIte, Nat.reduceEqDiff, Nat.reduceAdd, Nat.reduceSub, ↓Option.toList_some, ↓Option.toList_none, ↓List.cons_append, ↓List.nil_append, ↓kI_s, ↓kJ_s, ↓kN_s, ↓kO_s, ↓kZ_s, ↓kE_s, ↓an_rfl, ↓bt1 n00, ↓bt2 n00, ↓bf1 n10, ↓bf2 n10, ↓an_sz0, ↓an_sz1, ↓an_sz2, ↓an_sz3, ↓an_sz4, ↓an_ri, ↓an_rb0, ↓an_rb1, ↓an_b0, ↓an_b1, true_and, ↓ai_0s, ↓al_0s, ↓av_0s, ↓aq_0s, ↓ai_1s, ↓al_1s, ↓av_1s, ↓aq_1s, ↓ai_2s, ↓al_2s, ↓av_2s, ↓aq_2s, ↓ai_3s, ↓al_3s, ↓av_3s, ↓aq_3s, ↓ai_4s, ↓al_4s, ↓av_4s, ↓aq_4s, ↓ai_5s, ↓al_5s, ↓av_5s, ↓aq_5s, ↓ai_6s, ↓al_6s, ↓av_6s, ↓aq_6s, ↓ai_7s, ↓al_7s, ↓av_7s, ↓aq_7s, ↓an_l15, ↓bk_8009, ↓kp_8009_116, ↓an_t hc0]
  exact hs
set_option maxHeartbeats 4000000 in
set_option maxRecDepth 100000 in
theorem rl_8009_85 {C : px_C} (hn : px_nd (px_tb C)) {h : Nat} (hh : 4 ≤ h) (hC : px_ok C pn_i8009 h) {g8009 : px_M → Nat → Int32 → Int32 → Int32 → Option (Int64 × px_M)} (hg8009 : px_Ok (px_tb C) pn_i8009 (h - 1) (Sg_8009 g8009)) {k : Option px_V → px_M → Prop} {x0 : Nat} {x1 : Int32} {x3 : Int32} {x4 : Int32} {x5 : Int64} {x7 : Int64} {x9 : Int32} {x10 : Int32} {σ : px_M} (hs : oW (f_8009_85 (px_tb C) g8009 σ x0 x1 x3 x4 x5 x7 x9 x10) (Sum.elim (fun s : Int32 × Int64 × Int64 × Int32 × px_M => ∀ (z2 : Option px_V) (z10 : Option px_V) (z11 : Option px_V) (z12 : Option px_V) (z13 : Option px_V) (z14 : Option px_V), px_W C k 24 [some (.inr (.inr (some x0))), some (.inl x1), z2, some (.inl x3), some (.inl s.1), some (.inr (.inl s.2.1)), none, some (.inr (.inl s.2.2.1)), none, some (.inl s.2.2.2.1), z10, z11, z12, z13, z14] [] s.2.2.2.2) (fun q => k (some (.inr (.inl q.1))) q.2))) : ∀ (z2 : Option px_V) (z11 : Option px_V) (z12 : Option px_V) (z13 : Option px_V) (z14 : Option px_V), px_W C k 85 [some (.inr (.inr (some x0))), some (.inl x1), z2, some (.inl x3), some (.inl x4), some (.inr (.inl x5)), none, some (.inr (.inl x7)), none, some (.inl x9), some (.inl x10), z11, z12, z13, z14] [] σ := by
  intro z2 z11 z12 z13 z14
  refine px_runH (h - 1) ck_8009 [] [(203, kp_8009_203 (fun y0 y1 y3 y4 y5 y7 y9 τ => y0 = x0 ∧ y1 = x1 ∧ y3 = x3 ∧ oW (f_8009_203 (px_tb C) g8009 τ y0 y1 y3 y4 y5 y7 y9) (Sum.elim (fun s : Int32 × Int64 × Int64 × Int32 × px_M => ∀ (z2 : Option px_V) (z10 : Option px_V) (z11 : Option px_V) (z12 : Option px_V) (z13 : Option px_V) (z14 : Option px_V), px_W C k 24 [some (.inr (.inr (some x0))), some (.inl x1), z2, some (.inl x3), some (.inl s.1), some (.inr (.inl s.2.1)), none, some (.inr (.inl s.2.2.1)), none, some (.inl s.2.2.2.1), z10, z11, z12, z13, z14] [] s.2.2.2.2) (fun q => k (some (.inr (.inl q.1))) q.2))))] 80 15 (some .long) rfl rfl hC px_nosp (by omega) (px_cut1 (kq_8009_203 (fun y0 y1 y3 y4 y5 y7 y9 τ hq => by obtain ⟨rfl, rfl, rfl, hq⟩ := hq; exact rl_8009_203 hn (by omega) hC hg8009  hq)) px_nocut) (fun G Jf hG hJf => ?_)
  unfold f_8009_85 at hs
  by_cases hc0 : (lN 0) < x7
  · replace hs := oW_t hs hc0
    simp (implicitDefEqProofs := false) only [↓hG, ↓hJf, ↓px_vc, ↓px_ex, ↓px_jp, ↓rq_gi_0, ↓rq_gi_S, ↓rq_gl_0, ↓rq_gl_S, ↓rq_gr_0, ↓rq_gr_S, ↓rq_s1_0, ↓rq_s1_1, ↓rq_s1_S, ↓rq_s2_0, ↓rq_s2_1, ↓rq_s2_S, ↓rq_nl_n, ↓rq_nl_i, ↓rq_nl_l, ↓rq_nl_r, ↓rq_i1_s, ↓rq_l1_s, ↓r1_s, ↓rq_q1_s, ↓rq_i2_s, ↓rq_l2_s, ↓rq_il_s, ↓rq_d0_s, ↓rq_d1_i, ↓rq_d1_r, ↓rq_d2_l, ↓rq_d2_ii, ↓rq_d2_ir, ↓px_pop, ↓px_sp, ↓px_rd, ↓px_rf, ↓pn_xf, ↓rq_pt_0, ↓rq_pt_1, ↓rq_pt_2, ↓rq_pt_3, ↓px_sw, ↓pn_SW, ↓px_ma, ↓reduceIte, Nat.reduceEqDiff, Nat.reduceAdd, Nat.reduceSub, ↓Option.toList_some, ↓Option.toList_none, ↓List.cons_append, ↓List.nil_append, ↓kI_s, ↓kJ_s, ↓kN_s, ↓kO_s, ↓kZ_s, ↓kE_s, ↓an_rfl, ↓bt1 n00, ↓bt2 n00, ↓bf1 n10, ↓bf2 n10, ↓an_sz0, ↓an_sz1, ↓an_sz2, ↓an_sz3, ↓an_sz4, ↓an_ri, ↓an_rb0, ↓an_rb1, ↓an_b0, ↓an_b1, true_and, ↓ai_0s, ↓al_0s, ↓av_0s, ↓aq_0s, ↓ai_1s, ↓al_1s, ↓av_1s, ↓aq_1s, ↓ai_2s, ↓al_2s, ↓av_2s, ↓aq_2s, ↓ai_3s, ↓al_3s, ↓av_3s, ↓aq_3s, ↓ai_4s, ↓al_4s, ↓av_4s, ↓aq_4s, ↓ai_5s, ↓al_5s, ↓av_5s, ↓aq_5s, ↓ai_6s, ↓al_6s, ↓av_6s, ↓aq_6s, ↓ai_7s, ↓al_7s, ↓av_7s, ↓aq_7s, ↓an_l15, ↓bk_8009, ↓kp_8009_203, ↓bt1 ((lc_gt _ _).mpr hc0), ↓bt2 ((lc_gt _ _).mpr hc0)]
    exact hs
  · replace hs := oW_f hs hc0
    simp (implicitDefEqProofs := false) only [↓hG, ↓hJf, ↓px_vc, ↓px_ex, ↓px_jp, ↓rq_gi_0, ↓rq_gi_S, ↓rq_gl_0, ↓rq_gl_S, ↓rq_gr_0, ↓rq_gr_S, ↓rq_s1_0, ↓rq_s1_1, ↓rq_s1_S, ↓rq_s2_0, ↓rq_s2_1, ↓rq_s2_S, ↓rq_nl_n, ↓rq_nl_i, ↓rq_nl_l, ↓rq_nl_r, ↓rq_i1_s, ↓rq_l1_s, ↓r1_s, ↓rq_q1_s, ↓rq_i2_s, ↓rq_l2_s, ↓rq_il_s, ↓rq_d0_s, ↓rq_d1_i, ↓rq_d1_r, ↓rq_d2_l, ↓rq_d2_ii, ↓rq_d2_ir, ↓px_pop, ↓px_sp, ↓px_rd, ↓px_rf, ↓pn_xf, ↓rq_pt_0, ↓rq_pt_1, ↓rq_pt_2, ↓rq_pt_3, ↓px_sw, ↓pn_SW, ↓px_ma, ↓reduceIte, Nat.reduceEqDiff, Nat.reduceAdd, Nat.reduceSub, ↓Option.toList_some, ↓Option.toList_none, ↓List.cons_append, ↓List.nil_append, ↓kI_s, ↓kJ_s, ↓kN_s, ↓kO_s, ↓kZ_s, ↓kE_s, ↓an_rfl, ↓bt1 n00, ↓bt2 n00, ↓bf1 n10, ↓bf2 n10, ↓an_sz0, ↓an_sz1, ↓an_sz2, ↓an_sz3, ↓an_sz4, ↓an_ri, ↓an_rb0, ↓an_rb1, ↓an_b0, ↓an_b1, true_and, ↓ai_0s, ↓al_0s, ↓av_0s, ↓aq_0s, ↓ai_1s, ↓al_1s, ↓av_1s, ↓aq_1s, ↓ai_2s, ↓al_2s, ↓av_2s, ↓aq_2s, ↓ai_3s, ↓al_3s, ↓av_3s, ↓aq_3s, ↓ai_4s, ↓al_4s, ↓av_4s, ↓aq_4s, ↓ai_5s, ↓al_5s, ↓av_5s, ↓aq_5s, ↓ai_6s, ↓al_6s, ↓av_6s, ↓aq_6s, ↓ai_7s, ↓al_7s, ↓av_7s, ↓aq_7s, ↓an_l15, ↓bk_8009, ↓kp_8009_203, ↓bf1 (fun q => hc0 ((lc_gt _ _).mp q)), ↓bf2 (fun q => hc0 ((lc_gt _ _).mp q))]
    rw [oW_some] at hs
    exact hs
set_option maxHeartbeats 4000000 in
set_option maxRecDepth 100000 in
theorem rl_8009_72 {C : px_C} (hn : px_nd (px_tb C)) {h : Nat} (hh : 4 ≤ h) (hC : px_ok C pn_i8009 h) {g8009 : px_M → Nat → Int32 → Int32 → Int32 → Option (Int64 × px_M)} (hg8009 : px_Ok (px_tb C) pn_i8009 (h - 1) (Sg_8009 g8009)) {k : Option px_V → px_M → Prop} {x0 : Nat} {x1 : Int32} {x3 : Int32} {x4 : Int32} {x5 : Int64} {x7 : Int64} {x9 : Int32} {x10 : Int32} {x11 : Int32} {σ : px_M} (hs : oW (f_8009_72 (px_tb C) g8009 σ x0 x1 x3 x4 x5 x7 x9 x10 x11) (Sum.elim (fun s : Int32 × Int64 × Int64 × Int32 × px_M => ∀ (z2 : Option px_V) (z10 : Option px_V) (z11 : Option px_V) (z12 : Option px_V) (z13 : Option px_V) (z14 : Option px_V), px_W C k 24 [some (.inr (.inr (some x0))), some (.inl x1), z2, some (.inl x3), some (.inl s.1), some (.inr (.inl s.2.1)), none, some (.inr (.inl s.2.2.1)), none, some (.inl s.2.2.2.1), z10, z11, z12, z13, z14] [] s.2.2.2.2) (fun q => k (some (.inr (.inl q.1))) q.2))) : ∀ (z2 : Option px_V) (z12 : Option px_V) (z13 : Option px_V) (z14 : Option px_V), px_W C k 72 [some (.inr (.inr (some x0))), some (.inl x1), z2, some (.inl x3), some (.inl x4), some (.inr (.inl x5)), none, some (.inr (.inl x7)), none, some (.inl x9), some (.inl x10), some (.inl x11), z12, z13, z14] [] σ := by
  intro z2 z12 z13 z14
  refine px_runH (h - 1) ck_8009 [(21000, Sg_21000 (f_21000 (px_tb C)))] [(85, kp_8009_85 (fun y0 y1 y3 y4 y5 y7 y9 y10 τ => y0 = x0 ∧ y1 = x1 ∧ y3 = x3 ∧ oW (f_8009_85 (px_tb C) g8009 τ y0 y1 y3 y4 y5 y7 y9 y10) (Sum.elim (fun s : Int32 × Int64 × Int64 × Int32 × px_M => ∀ (z2 : Option px_V) (z10 : Option px_V) (z11 : Option px_V) (z12 : Option px_V) (z13 : Option px_V) (z14 : Option px_V), px_W C k 24 [some (.inr (.inr (some x0))), some (.inl x1), z2, some (.inl x3), some (.inl s.1), some (.inr (.inl s.2.1)), none, some (.inr (.inl s.2.2.1)), none, some (.inl s.2.2.2.1), z10, z11, z12, z13, z14] [] s.2.2.2.2) (fun q => k (some (.inr (.inl q.1))) q.2))))] 80 15 (some .long) rfl rfl hC (px_sp1 (mf_21000 hn (by omega)) px_nosp) (by omega) (px_cut1 (kq_8009_85 (fun y0 y1 y3 y4 y5 y7 y9 y10 τ hq => by obtain ⟨rfl, rfl, rfl, hq⟩ := hq; exact rl_8009_85 hn (by omega) hC hg8009  hq)) px_nocut) (fun G Jf hG hJf => ?_)
  unfold f_8009_72 at hs
  obtain ⟨r1, hc0, hs⟩ := oW_bx hs
  simp (implicitDefEqProofs := false) only [↓hG, ↓hJf, ↓px_vc, ↓px_ex, ↓px_jp, ↓rq_gi_0, ↓rq_gi_S, ↓rq_gl_0, ↓rq_gl_S, ↓rq_gr_0, ↓rq_gr_S, ↓rq_s1_0, ↓rq_s1_1, ↓rq_s1_S, ↓rq_s2_0, ↓rq_s2_1, ↓rq_s2_S, ↓rq_nl_n, ↓rq_nl_i, ↓rq_nl_l, ↓rq_nl_r, ↓rq_i1_s, ↓rq_l1_s, ↓r1_s, ↓rq_q1_s, ↓rq_i2_s, ↓rq_l2_s, ↓rq_il_s, ↓rq_d0_s, ↓rq_d1_i, ↓rq_d1_r, ↓rq_d2_l, ↓rq_d2_ii, ↓rq_d2_ir, ↓px_pop, ↓px_sp, ↓px_rd, ↓px_rf, ↓pn_xf, ↓rq_pt_0, ↓rq_pt_1, ↓rq_pt_2, ↓rq_pt_3, ↓px_sw, ↓pn_SW, ↓px_ma, ↓reduceIte, Nat.reduceEqDiff, Nat.reduceAdd, Nat.reduceSub, ↓Option.toList_some, ↓Option.toList_none, ↓List.cons_append, ↓List.nil_append, ↓kI_s, ↓kJ_s, ↓kN_s, ↓kO_s, ↓kZ_s, ↓kE_s, ↓an_rfl, ↓bt1 n00, ↓bt2 n00, ↓bf1 n10, ↓bf2 n10, ↓an_sz0, ↓an_sz1, ↓an_sz2, ↓an_sz3, ↓an_sz4, ↓an_ri, ↓an_rb0, ↓an_rb1, ↓an_b0, ↓an_b1, true_and, ↓ai_0s, ↓al_0s, ↓av_0s, ↓aq_0s, ↓ai_1s, ↓al_1s, ↓av_1s, ↓aq_1s, ↓ai_2s, ↓al_2s, ↓av_2s, ↓aq_2s, ↓ai_3s, ↓al_3s, ↓av_3s, ↓aq_3s, ↓ai_4s, ↓al_4s, ↓av_4s, ↓aq_4s, ↓ai_5s, ↓al_5s, ↓av_5s, ↓aq_5s, ↓ai_6s, ↓al_6s, ↓av_6s, ↓aq_6s, ↓ai_7s, ↓al_7s, ↓av_7s, ↓aq_7s, ↓an_l15, ↓bk_8009, ↓Sg_21000, ↓kp_8009_85, ↓oW_e hc0]
  exact hs
set_option maxHeartbeats 4000000 in
set_option maxRecDepth 100000 in
theorem rl_8009_57 {C : px_C} (hn : px_nd (px_tb C)) {h : Nat} (hh : 4 ≤ h) (hC : px_ok C pn_i8009 h) {g8009 : px_M → Nat → Int32 → Int32 → Int32 → Option (Int64 × px_M)} (hg8009 : px_Ok (px_tb C) pn_i8009 (h - 1) (Sg_8009 g8009)) {k : Option px_V → px_M → Prop} {x0 : Nat} {x1 : Int32} {x3 : Int32} {x4 : Int32} {x5 : Int64} {x7 : Int64} {x9 : Int32} {x10 : Int32} {x11 : Int32} {σ : px_M} (hs : oW (f_8009_57 (px_tb C) g8009 σ x0 x1 x3 x4 x5 x7 x9 x10 x11) (Sum.elim (fun s : Int32 × Int64 × Int64 × Int32 × px_M => ∀ (z2 : Option px_V) (z10 : Option px_V) (z11 : Option px_V) (z12 : Option px_V) (z13 : Option px_V) (z14 : Option px_V), px_W C k 24 [some (.inr (.inr (some x0))), some (.inl x1), z2, some (.inl x3), some (.inl s.1), some (.inr (.inl s.2.1)), none, some (.inr (.inl s.2.2.1)), none, some (.inl s.2.2.2.1), z10, z11, z12, z13, z14] [] s.2.2.2.2) (fun q => k (some (.inr (.inl q.1))) q.2))) : ∀ (z2 : Option px_V) (z12 : Option px_V) (z13 : Option px_V) (z14 : Option px_V), px_W C k 57 [some (.inr (.inr (some x0))), some (.inl x1), z2, some (.inl x3), some (.inl x4), some (.inr (.inl x5)), none, some (.inr (.inl x7)), none, some (.inl x9), some (.inl x10), some (.inl x11), z12, z13, z14] [] σ := by
  intro z2 z12 z13 z14
  refine px_runH (h - 1) ck_8009 [(8013, Sg_8013 (f_8013 (px_tb C)))] [(72, kp_8009_72 (fun y0 y1 y3 y4 y5 y7 y9 y10 y11 τ => y0 = x0 ∧ y1 = x1 ∧ y3 = x3 ∧ oW (f_8009_72 (px_tb C) g8009 τ y0 y1 y3 y4 y5 y7 y9 y10 y11) (Sum.elim (fun s : Int32 × Int64 × Int64 × Int32 × px_M => ∀ (z2 : Option px_V) (z10 : Option px_V) (z11 : Option px_V) (z12 : Option px_V) (z13 : Option px_V) (z14 : Option px_V), px_W C k 24 [some (.inr (.inr (some x0))), some (.inl x1), z2, some (.inl x3), some (.inl s.1), some (.inr (.inl s.2.1)), none, some (.inr (.inl s.2.2.1)), none, some (.inl s.2.2.2.1), z10, z11, z12, z13, z14] [] s.2.2.2.2) (fun q => k (some (.inr (.inl q.1))) q.2)))), (109, kp_8009_109 (fun y0 y1 y3 y4 y5 y7 y9 y12 τ => y0 = x0 ∧ y1 = x1 ∧ y3 = x3 ∧ oW (f_8009_109 (px_tb C) g8009 τ y0 y1 y3 y4 y5 y7 y9 y12) (Sum.elim (fun s : Int32 × Int64 × Int64 × Int32 × px_M => ∀ (z2 : Option px_V) (z10 : Option px_V) (z11 : Option px_V) (z12 : Option px_V) (z13 : Option px_V) (z14 : Option px_V), px_W C k 24 [some (.inr (.inr (some x0))), some (.inl x1), z2, some (.inl x3), some (.inl s.1), some (.inr (.inl s.2.1)), none, some (.inr (.inl s.2.2.1)), none, some (.inl s.2.2.2.1), z10, z11, z12, z13, z14] [] s.2.2.2.2) (fun q => k (some (.inr (.inl q.1))) q.2))))] 80 15 (some .long) rfl rfl hC (px_sp1 (mf_8013 hn (by omega)) px_nosp) (by omega) (px_cut1 (kq_8009_72 (fun y0 y1 y3 y4 y5 y7 y9 y10 y11 τ hq => by obtain ⟨rfl, rfl, rfl, hq⟩ := hq; exact rl_8009_72 hn (by omega) hC hg8009  hq)) (px_cut1 (kq_8009_109 (fun y0 y1 y3 y4 y5 y7 y9 y12 τ hq => by obtain ⟨rfl, rfl, rfl, hq⟩ := hq; exact rl_8009_109 hn (by omega) hC hg8009  hq)) px_nocut)) (fun G Jf hG hJf => ?_)
  unfold f_8009_57 at hs
  obtain ⟨hc0, hs⟩ := oW_gx hs
  obtain ⟨r1, hc1, hs⟩ := oW_bx hs
  by_cases hc2 : r1 = (-1)
  · replace hs := bW_t hs hc2
    simp (implicitDefEqProofs := false) only [↓hG, ↓hJf, ↓px_vc, ↓px_ex, ↓px_jp, ↓rq_gi_0, ↓rq_gi_S, ↓rq_gl_0, ↓rq_gl_S, ↓rq_gr_0, ↓rq_gr_S, ↓rq_s1_0, ↓rq_s1_1, ↓rq_s1_S, ↓rq_s2_0, ↓rq_s2_1, ↓rq_s2_S, ↓rq_nl_n, ↓rq_nl_i, ↓rq_nl_l, ↓rq_nl_r, ↓rq_i1_s, ↓rq_l1_s, ↓r1_s, ↓rq_q1_s, ↓rq_i2_s, ↓rq_l2_s, ↓rq_il_s, ↓rq_d0_s, ↓rq_d1_i, ↓rq_d1_r, ↓rq_d2_l, ↓rq_d2_ii, ↓rq_d2_ir, ↓px_pop, ↓px_sp, ↓px_rd, ↓px_rf, ↓pn_xf, ↓rq_pt_0, ↓rq_pt_1, ↓rq_pt_2, ↓rq_pt_3, ↓px_sw, ↓pn_SW, ↓px_ma, ↓reduceIte, Nat.reduceEqDiff, Nat.reduceAdd, Nat.reduceSub, ↓Option.toList_some, ↓Option.toList_none, ↓List.cons_append, ↓List.nil_append, ↓kI_s, ↓kJ_s, ↓kN_s, ↓kO_s, ↓kZ_s, ↓kE_s, ↓an_rfl, ↓bt1 n00, ↓bt2 n00, ↓bf1 n10, ↓bf2 n10, ↓an_sz0, ↓an_sz1, ↓an_sz2, ↓an_sz3, ↓an_sz4, ↓an_ri, ↓an_rb0, ↓an_rb1, ↓an_b0, ↓an_b1, true_and, ↓ai_0s, ↓al_0s, ↓av_0s, ↓aq_0s, ↓ai_1s, ↓al_1s, ↓av_1s, ↓aq_1s, ↓ai_2s, ↓al_2s, ↓av_2s, ↓aq_2s, ↓ai_3s, ↓al_3s, ↓av_3s, ↓aq_3s, ↓ai_4s, ↓al_4s, ↓av_4s, ↓aq_4s, ↓ai_5s, ↓al_5s, ↓av_5s, ↓aq_5s, ↓ai_6s, ↓al_6s, ↓av_6s, ↓aq_6s, ↓ai_7s, ↓al_7s, ↓av_7s, ↓aq_7s, ↓an_l15, ↓bk_8009, ↓Sg_8013, ↓kp_8009_72, ↓kp_8009_109, ↓an_t hc0, ↓an_rv hc0, ↓oW_e hc1, ↓bt1 hc2, ↓bt2 hc2]
    exact hs
  · replace hs := bW_f hs hc2
    simp (implicitDefEqProofs := false) only [↓hG, ↓hJf, ↓px_vc, ↓px_ex, ↓px_jp, ↓rq_gi_0, ↓rq_gi_S, ↓rq_gl_0, ↓rq_gl_S, ↓rq_gr_0, ↓rq_gr_S, ↓rq_s1_0, ↓rq_s1_1, ↓rq_s1_S, ↓rq_s2_0, ↓rq_s2_1, ↓rq_s2_S, ↓rq_nl_n, ↓rq_nl_i, ↓rq_nl_l, ↓rq_nl_r, ↓rq_i1_s, ↓rq_l1_s, ↓r1_s, ↓rq_q1_s, ↓rq_i2_s, ↓rq_l2_s, ↓rq_il_s, ↓rq_d0_s, ↓rq_d1_i, ↓rq_d1_r, ↓rq_d2_l, ↓rq_d2_ii, ↓rq_d2_ir, ↓px_pop, ↓px_sp, ↓px_rd, ↓px_rf, ↓pn_xf, ↓rq_pt_0, ↓rq_pt_1, ↓rq_pt_2, ↓rq_pt_3, ↓px_sw, ↓pn_SW, ↓px_ma, ↓reduceIte, Nat.reduceEqDiff, Nat.reduceAdd, Nat.reduceSub, ↓Option.toList_some, ↓Option.toList_none, ↓List.cons_append, ↓List.nil_append, ↓kI_s, ↓kJ_s, ↓kN_s, ↓kO_s, ↓kZ_s, ↓kE_s, ↓an_rfl, ↓bt1 n00, ↓bt2 n00, ↓bf1 n10, ↓bf2 n10, ↓an_sz0, ↓an_sz1, ↓an_sz2, ↓an_sz3, ↓an_sz4, ↓an_ri, ↓an_rb0, ↓an_rb1, ↓an_b0, ↓an_b1, true_and, ↓ai_0s, ↓al_0s, ↓av_0s, ↓aq_0s, ↓ai_1s, ↓al_1s, ↓av_1s, ↓aq_1s, ↓ai_2s, ↓al_2s, ↓av_2s, ↓aq_2s, ↓ai_3s, ↓al_3s, ↓av_3s, ↓aq_3s, ↓ai_4s, ↓al_4s, ↓av_4s, ↓aq_4s, ↓ai_5s, ↓al_5s, ↓av_5s, ↓aq_5s, ↓ai_6s, ↓al_6s, ↓av_6s, ↓aq_6s, ↓ai_7s, ↓al_7s, ↓av_7s, ↓aq_7s, ↓an_l15, ↓bk_8009, ↓Sg_8013, ↓kp_8009_72, ↓kp_8009_109, ↓an_t hc0, ↓an_rv hc0, ↓oW_e hc1, ↓bf1 hc2, ↓bf2 hc2]
    exact hs
set_option maxHeartbeats 4000000 in
set_option maxRecDepth 100000 in
theorem rl_8009_45 {C : px_C} (hn : px_nd (px_tb C)) {h : Nat} (hh : 4 ≤ h) (hC : px_ok C pn_i8009 h) {g8009 : px_M → Nat → Int32 → Int32 → Int32 → Option (Int64 × px_M)} (hg8009 : px_Ok (px_tb C) pn_i8009 (h - 1) (Sg_8009 g8009)) {k : Option px_V → px_M → Prop} {x0 : Nat} {x1 : Int32} {x3 : Int32} {x4 : Int32} {x5 : Int64} {x7 : Int64} {x9 : Int32} {x10 : Int32} {σ : px_M} (hs : oW (f_8009_45 (px_tb C) g8009 σ x0 x1 x3 x4 x5 x7 x9 x10) (Sum.elim (fun s : Int32 × Int64 × Int64 × Int32 × px_M => ∀ (z2 : Option px_V) (z10 : Option px_V) (z11 : Option px_V) (z12 : Option px_V) (z13 : Option px_V) (z14 : Option px_V), px_W C k 24 [some (.inr (.inr (some x0))), some (.inl x1), z2, some (.inl x3), some (.inl s.1), some (.inr (.inl s.2.1)), none, some (.inr (.inl s.2.2.1)), none, some (.inl s.2.2.2.1), z10, z11, z12, z13, z14] [] s.2.2.2.2) (fun q => k (some (.inr (.inl q.1))) q.2))) : ∀ (z2 : Option px_V) (z11 : Option px_V) (z12 : Option px_V) (z13 : Option px_V) (z14 : Option px_V), px_W C k 45 [some (.inr (.inr (some x0))), some (.inl x1), z2, some (.inl x3), some (.inl x4), some (.inr (.inl x5)), none, some (.inr (.inl x7)), none, some (.inl x9), some (.inl x10), z11, z12, z13, z14] [] σ := by
  intro z2 z11 z12 z13 z14
  refine px_runH (h - 1) ck_8009 [(8010, Sg_8010 (f_8010 (px_tb C)))] [(57, kp_8009_57 (fun y0 y1 y3 y4 y5 y7 y9 y10 y11 τ => y0 = x0 ∧ y1 = x1 ∧ y3 = x3 ∧ oW (f_8009_57 (px_tb C) g8009 τ y0 y1 y3 y4 y5 y7 y9 y10 y11) (Sum.elim (fun s : Int32 × Int64 × Int64 × Int32 × px_M => ∀ (z2 : Option px_V) (z10 : Option px_V) (z11 : Option px_V) (z12 : Option px_V) (z13 : Option px_V) (z14 : Option px_V), px_W C k 24 [some (.inr (.inr (some x0))), some (.inl x1), z2, some (.inl x3), some (.inl s.1), some (.inr (.inl s.2.1)), none, some (.inr (.inl s.2.2.1)), none, some (.inl s.2.2.2.1), z10, z11, z12, z13, z14] [] s.2.2.2.2) (fun q => k (some (.inr (.inl q.1))) q.2))))] 80 15 (some .long) rfl rfl hC (px_sp1 (mf_8010 hn (by omega)) px_nosp) (by omega) (px_cut1 (kq_8009_57 (fun y0 y1 y3 y4 y5 y7 y9 y10 y11 τ hq => by obtain ⟨rfl, rfl, rfl, hq⟩ := hq; exact rl_8009_57 hn (by omega) hC hg8009  hq)) px_nocut) (fun G Jf hG hJf => ?_)
  unfold f_8009_45 at hs
  obtain ⟨hc0, hs⟩ := oW_gx hs
  obtain ⟨r1, hc1, hs⟩ := oW_bx hs
  simp (implicitDefEqProofs := false) only [↓hG, ↓hJf, ↓px_vc, ↓px_ex, ↓px_jp, ↓rq_gi_0, ↓rq_gi_S, ↓rq_gl_0, ↓rq_gl_S, ↓rq_gr_0, ↓rq_gr_S, ↓rq_s1_0, ↓rq_s1_1, ↓rq_s1_S, ↓rq_s2_0, ↓rq_s2_1, ↓rq_s2_S, ↓rq_nl_n, ↓rq_nl_i, ↓rq_nl_l, ↓rq_nl_r, ↓rq_i1_s, ↓rq_l1_s, ↓r1_s, ↓rq_q1_s, ↓rq_i2_s, ↓rq_l2_s, ↓rq_il_s, ↓rq_d0_s, ↓rq_d1_i, ↓rq_d1_r, ↓rq_d2_l, ↓rq_d2_ii, ↓rq_d2_ir, ↓px_pop, ↓px_sp, ↓px_rd, ↓px_rf, ↓pn_xf, ↓rq_pt_0, ↓rq_pt_1, ↓rq_pt_2, ↓rq_pt_3, ↓px_sw, ↓pn_SW, ↓px_ma, ↓reduceIte, Nat.reduceEqDiff, Nat.reduceAdd, Nat.reduceSub, ↓Option.toList_some, ↓Option.toList_none, ↓List.cons_append, ↓List.nil_append, ↓kI_s, ↓kJ_s, ↓kN_s, ↓kO_s, ↓kZ_s, ↓kE_s, ↓an_rfl, ↓bt1 n00, ↓bt2 n00, ↓bf1 n10, ↓bf2 n10, ↓an_sz0, ↓an_sz1, ↓an_sz2, ↓an_sz3, ↓an_sz4, ↓an_ri, ↓an_rb0, ↓an_rb1, ↓an_b0, ↓an_b1, true_and, ↓ai_0s, ↓al_0s, ↓av_0s, ↓aq_0s, ↓ai_1s, ↓al_1s, ↓av_1s, ↓aq_1s, ↓ai_2s, ↓al_2s, ↓av_2s, ↓aq_2s, ↓ai_3s, ↓al_3s, ↓av_3s, ↓aq_3s, ↓ai_4s, ↓al_4s, ↓av_4s, ↓aq_4s, ↓ai_5s, ↓al_5s, ↓av_5s, ↓aq_5s, ↓ai_6s, ↓al_6s, ↓av_6s, ↓aq_6s, ↓ai_7s, ↓al_7s, ↓av_7s, ↓aq_7s, ↓an_l15, ↓bk_8009, ↓Sg_8010, ↓kp_8009_57, ↓an_t hc0, ↓an_rv hc0, ↓oW_e hc1]
  exact hs
set_option maxHeartbeats 4000000 in
set_option maxRecDepth 100000 in
theorem rl_8009_24 {C : px_C} (hn : px_nd (px_tb C)) {h : Nat} (hh : 4 ≤ h) (hC : px_ok C pn_i8009 h) {g8009 : px_M → Nat → Int32 → Int32 → Int32 → Option (Int64 × px_M)} (hg8009 : px_Ok (px_tb C) pn_i8009 (h - 1) (Sg_8009 g8009)) {k : Option px_V → px_M → Prop} {x0 : Nat} {x1 : Int32} {x3 : Int32} : ∀ s : Int32 × Int64 × Int64 × Int32 × px_M, oW (f_8009_24 (px_tb C) g8009 x0 x1 x3 s.1 s.2.1 s.2.2.1 s.2.2.2.1 s.2.2.2.2) (fun q => k (some (.inr (.inl q.1))) q.2) → (fun s : Int32 × Int64 × Int64 × Int32 × px_M => ∀ (z2 : Option px_V) (z10 : Option px_V) (z11 : Option px_V) (z12 : Option px_V) (z13 : Option px_V) (z14 : Option px_V), px_W C k 24 [some (.inr (.inr (some x0))), some (.inl x1), z2, some (.inl x3), some (.inl s.1), some (.inr (.inl s.2.1)), none, some (.inr (.inl s.2.2.1)), none, some (.inl s.2.2.2.1), z10, z11, z12, z13, z14] [] s.2.2.2.2) s := by
  intro s h0
  refine lpO_sound (P := (fun s : Int32 × Int64 × Int64 × Int32 × px_M => ∀ (z2 : Option px_V) (z10 : Option px_V) (z11 : Option px_V) (z12 : Option px_V) (z13 : Option px_V) (z14 : Option px_V), px_W C k 24 [some (.inr (.inr (some x0))), some (.inl x1), z2, some (.inl x3), some (.inl s.1), some (.inr (.inl s.2.1)), none, some (.inr (.inl s.2.2.1)), none, some (.inl s.2.2.2.1), z10, z11, z12, z13, z14] [] s.2.2.2.2)) (fun s hs => ?_) h0
  obtain ⟨x4, x5, x7, x9, σ⟩ := s
  intro z2 z10 z11 z12 z13 z14
  refine px_runH (h - 1) ck_8009 [(8012, Sg_8012 (f_8012 (px_tb C)))] [(45, kp_8009_45 (fun y0 y1 y3 y4 y5 y7 y9 y10 τ => y0 = x0 ∧ y1 = x1 ∧ y3 = x3 ∧ oW (f_8009_45 (px_tb C) g8009 τ y0 y1 y3 y4 y5 y7 y9 y10) (Sum.elim (fun s : Int32 × Int64 × Int64 × Int32 × px_M => ∀ (z2 : Option px_V) (z10 : Option px_V) (z11 : Option px_V) (z12 : Option px_V) (z13 : Option px_V) (z14 : Option px_V), px_W C k 24 [some (.inr (.inr (some x0))), some (.inl x1), z2, some (.inl x3), some (.inl s.1), some (.inr (.inl s.2.1)), none, some (.inr (.inl s.2.2.1)), none, some (.inl s.2.2.2.1), z10, z11, z12, z13, z14] [] s.2.2.2.2) (fun q => k (some (.inr (.inl q.1))) q.2)))), (209, kp_8009_209 (fun y4 y5 y7 τ => oW (f_8009_209 (px_tb C) g8009 τ y4 y5 y7) (fun q => k (some (.inr (.inl q.1))) q.2)))] 80 15 (some .long) rfl rfl hC (px_sp1 (mf_8012 hn (by omega)) px_nosp) (by omega) (px_cut1 (kq_8009_45 (fun y0 y1 y3 y4 y5 y7 y9 y10 τ hq => by obtain ⟨rfl, rfl, rfl, hq⟩ := hq; exact rl_8009_45 hn (by omega) hC hg8009  hq)) (px_cut1 (kq_8009_209 (fun y4 y5 y7 τ hq => by exact rl_8009_209 hn (by omega) hC hg8009  hq)) px_nocut)) (fun G Jf hG hJf => ?_)
  replace hs : oW (F_8009_24 (px_tb C) g8009 x0 x1 x3 x4 x5 x7 x9 σ) _ := hs
  unfold F_8009_24 at hs
  by_cases hc0 : (nI 100) ≤ x9
  · replace hs := oW_t hs hc0
    simp (implicitDefEqProofs := false) only [↓hG, ↓hJf, ↓px_vc, ↓px_ex, ↓px_jp, ↓rq_gi_0, ↓rq_gi_S, ↓rq_gl_0, ↓rq_gl_S, ↓rq_gr_0, ↓rq_gr_S, ↓rq_s1_0, ↓rq_s1_1, ↓rq_s1_S, ↓rq_s2_0, ↓rq_s2_1, ↓rq_s2_S, ↓rq_nl_n, ↓rq_nl_i, ↓rq_nl_l, ↓rq_nl_r, ↓rq_i1_s, ↓rq_l1_s, ↓r1_s, ↓rq_q1_s, ↓rq_i2_s, ↓rq_l2_s, ↓rq_il_s, ↓rq_d0_s, ↓rq_d1_i, ↓rq_d1_r, ↓rq_d2_l, ↓rq_d2_ii, ↓rq_d2_ir, ↓px_pop, ↓px_sp, ↓px_rd, ↓px_rf, ↓pn_xf, ↓rq_pt_0, ↓rq_pt_1, ↓rq_pt_2, ↓rq_pt_3, ↓px_sw, ↓pn_SW, ↓px_ma, ↓reduceIte, Nat.reduceEqDiff, Nat.reduceAdd, Nat.reduceSub, ↓Option.toList_some, ↓Option.toList_none, ↓List.cons_append, ↓List.nil_append, ↓kI_s, ↓kJ_s, ↓kN_s, ↓kO_s, ↓kZ_s, ↓kE_s, ↓an_rfl, ↓bt1 n00, ↓bt2 n00, ↓bf1 n10, ↓bf2 n10, ↓an_sz0, ↓an_sz1, ↓an_sz2, ↓an_sz3, ↓an_sz4, ↓an_ri, ↓an_rb0, ↓an_rb1, ↓an_b0, ↓an_b1, true_and, ↓ai_0s, ↓al_0s, ↓av_0s, ↓aq_0s, ↓ai_1s, ↓al_1s, ↓av_1s, ↓aq_1s, ↓ai_2s, ↓al_2s, ↓av_2s, ↓aq_2s, ↓ai_3s, ↓al_3s, ↓av_3s, ↓aq_3s, ↓ai_4s, ↓al_4s, ↓av_4s, ↓aq_4s, ↓ai_5s, ↓al_5s, ↓av_5s, ↓aq_5s, ↓ai_6s, ↓al_6s, ↓av_6s, ↓aq_6s, ↓ai_7s, ↓al_7s, ↓av_7s, ↓aq_7s, ↓an_l15, ↓bk_8009, ↓Sg_8012, ↓kp_8009_45, ↓kp_8009_209, ↓bt1 hc0, ↓bt2 hc0]
    simp only [oW_map] at hs
    exact hs
  · replace hs := oW_f hs hc0
    by_cases hc1 : x4 = nI 0
    · replace hs := oW_t hs hc1
      simp (implicitDefEqProofs := false) only [↓hG, ↓hJf, ↓px_vc, ↓px_ex, ↓px_jp, ↓rq_gi_0, ↓rq_gi_S, ↓rq_gl_0, ↓rq_gl_S, ↓rq_gr_0, ↓rq_gr_S, ↓rq_s1_0, ↓rq_s1_1, ↓rq_s1_S, ↓rq_s2_0, ↓rq_s2_1, ↓rq_s2_S, ↓rq_nl_n, ↓rq_nl_i, ↓rq_nl_l, ↓rq_nl_r, ↓rq_i1_s, ↓rq_l1_s, ↓r1_s, ↓rq_q1_s, ↓rq_i2_s, ↓rq_l2_s, ↓rq_il_s, ↓rq_d0_s, ↓rq_d1_i, ↓rq_d1_r, ↓rq_d2_l, ↓rq_d2_ii, ↓rq_d2_ir, ↓px_pop, ↓px_sp, ↓px_rd, ↓px_rf, ↓pn_xf, ↓rq_pt_0, ↓rq_pt_1, ↓rq_pt_2, ↓rq_pt_3, ↓px_sw, ↓pn_SW, ↓px_ma, ↓reduceIte, Nat.reduceEqDiff, Nat.reduceAdd, Nat.reduceSub, ↓Option.toList_some, ↓Option.toList_none, ↓List.cons_append, ↓List.nil_append, ↓kI_s, ↓kJ_s, ↓kN_s, ↓kO_s, ↓kZ_s, ↓kE_s, ↓an_rfl, ↓bt1 n00, ↓bt2 n00, ↓bf1 n10, ↓bf2 n10, ↓an_sz0, ↓an_sz1, ↓an_sz2, ↓an_sz3, ↓an_sz4, ↓an_ri, ↓an_rb0, ↓an_rb1, ↓an_b0, ↓an_b1, true_and, ↓ai_0s, ↓al_0s, ↓av_0s, ↓aq_0s, ↓ai_1s, ↓al_1s, ↓av_1s, ↓aq_1s, ↓ai_2s, ↓al_2s, ↓av_2s, ↓aq_2s, ↓ai_3s, ↓al_3s, ↓av_3s, ↓aq_3s, ↓ai_4s, ↓al_4s, ↓av_4s, ↓aq_4s, ↓ai_5s, ↓al_5s, ↓av_5s, ↓aq_5s, ↓ai_6s, ↓al_6s, ↓av_6s, ↓aq_6s, ↓ai_7s, ↓al_7s, ↓av_7s, ↓aq_7s, ↓an_l15, ↓bk_8009, ↓Sg_8012, ↓kp_8009_45, ↓kp_8009_209, ↓bf1 hc0, ↓bf2 hc0, ↓bt1 hc1, ↓bt2 hc1]
      simp only [oW_map] at hs
      exact hs
    · replace hs := oW_f hs hc1
      obtain ⟨hc2, hs⟩ := oW_gx hs
      obtain ⟨r1, hc3, hs⟩ := oW_bx hs
      simp (implicitDefEqProofs := false) only [↓hG, ↓hJf, ↓px_vc, ↓px_ex, ↓px_jp, ↓rq_gi_0, ↓rq_gi_S, ↓rq_gl_0, ↓rq_gl_S, ↓rq_gr_0, ↓rq_gr_S, ↓rq_s1_0, ↓rq_s1_1, ↓rq_s1_S, ↓rq_s2_0, ↓rq_s2_1, ↓rq_s2_S, ↓rq_nl_n, ↓rq_nl_i, ↓rq_nl_l, ↓rq_nl_r, ↓rq_i1_s, ↓rq_l1_s, ↓r1_s, ↓rq_q1_s, ↓rq_i2_s, ↓rq_l2_s, ↓rq_il_s, ↓rq_d0_s, ↓rq_d1_i, ↓rq_d1_r, ↓rq_d2_l, ↓rq_d2_ii, ↓rq_d2_ir, ↓px_pop, ↓px_sp, ↓px_rd, ↓px_rf, ↓pn_xf, ↓rq_pt_0, ↓rq_pt_1, ↓rq_pt_2, ↓rq_pt_3, ↓px_sw, ↓pn_SW, ↓px_ma, ↓reduceIte, Nat.reduceEqDiff, Nat.reduceAdd, Nat.reduceSub, ↓Option.toList_some, ↓Option.toList_none, ↓List.cons_append, ↓List.nil_append, ↓kI_s, ↓kJ_s, ↓kN_s, ↓kO_s, ↓kZ_s, ↓kE_s, ↓an_rfl, ↓bt1 n00, ↓bt2 n00, ↓bf1 n10, ↓bf2 n10, ↓an_sz0, ↓an_sz1, ↓an_sz2, ↓an_sz3, ↓an_sz4, ↓an_ri, ↓an_rb0, ↓an_rb1, ↓an_b0, ↓an_b1, true_and, ↓ai_0s, ↓al_0s, ↓av_0s, ↓aq_0s, ↓ai_1s, ↓al_1s, ↓av_1s, ↓aq_1s, ↓ai_2s, ↓al_2s, ↓av_2s, ↓aq_2s, ↓ai_3s, ↓al_3s, ↓av_3s, ↓aq_3s, ↓ai_4s, ↓al_4s, ↓av_4s, ↓aq_4s, ↓ai_5s, ↓al_5s, ↓av_5s, ↓aq_5s, ↓ai_6s, ↓al_6s, ↓av_6s, ↓aq_6s, ↓ai_7s, ↓al_7s, ↓av_7s, ↓aq_7s, ↓an_l15, ↓bk_8009, ↓Sg_8012, ↓kp_8009_45, ↓kp_8009_209, ↓bf1 hc0, ↓bf2 hc0, ↓bf1 hc1, ↓bf2 hc1, ↓an_t hc2, ↓an_rv hc2, ↓oW_e hc3]
      exact hs
set_option maxHeartbeats 4000000 in
set_option maxRecDepth 100000 in
theorem rl_8009_10 {C : px_C} (hn : px_nd (px_tb C)) {h : Nat} (hh : 4 ≤ h) (hC : px_ok C pn_i8009 h) {g8009 : px_M → Nat → Int32 → Int32 → Int32 → Option (Int64 × px_M)} (hg8009 : px_Ok (px_tb C) pn_i8009 (h - 1) (Sg_8009 g8009)) {k : Option px_V → px_M → Prop} {σ : px_M} (hs : oW (f_8009_10 (px_tb C) g8009 σ) (fun q => k (some (.inr (.inl q.1))) q.2)) : ∀ (z0 : Option px_V) (z1 : Option px_V) (z2 : Option px_V) (z3 : Option px_V) (z4 : Option px_V) (z5 : Option px_V) (z6 : Option px_V) (z7 : Option px_V) (z8 : Option px_V) (z9 : Option px_V) (z10 : Option px_V) (z11 : Option px_V) (z12 : Option px_V) (z13 : Option px_V) (z14 : Option px_V), px_W C k 10 [z0, z1, z2, z3, z4, z5, z6, z7, z8, z9, z10, z11, z12, z13, z14] [] σ := by
  intro z0 z1 z2 z3 z4 z5 z6 z7 z8 z9 z10 z11 z12 z13 z14
  refine px_runH (h - 1) ck_8009 [] [] 80 15 (some .long) rfl rfl hC px_nosp (by omega) px_nocut (fun G Jf hG hJf => ?_)
  unfold f_8009_10 at hs
  simp (implicitDefEqProofs := false) only [↓hG, ↓hJf, ↓px_vc, ↓px_ex, ↓px_jp, ↓rq_gi_0, ↓rq_gi_S, ↓rq_gl_0, ↓rq_gl_S, ↓rq_gr_0, ↓rq_gr_S, ↓rq_s1_0, ↓rq_s1_1, ↓rq_s1_S, ↓rq_s2_0, ↓rq_s2_1, ↓rq_s2_S, ↓rq_nl_n, ↓rq_nl_i, ↓rq_nl_l, ↓rq_nl_r, ↓rq_i1_s, ↓rq_l1_s, ↓r1_s, ↓rq_q1_s, ↓rq_i2_s, ↓rq_l2_s, ↓rq_il_s, ↓rq_d0_s, ↓rq_d1_i, ↓rq_d1_r, ↓rq_d2_l, ↓rq_d2_ii, ↓rq_d2_ir, ↓px_pop, ↓px_sp, ↓px_rd, ↓px_rf, ↓pn_xf, ↓rq_pt_0, ↓rq_pt_1, ↓rq_pt_2, ↓rq_pt_3, ↓px_sw, ↓pn_SW, ↓px_ma, ↓reduceIte, Nat.reduceEqDiff, Nat.reduceAdd, Nat.reduceSub, ↓Option.toList_some, ↓Option.toList_none, ↓List.cons_append, ↓List.nil_append, ↓kI_s, ↓kJ_s, ↓kN_s, ↓kO_s, ↓kZ_s, ↓kE_s, ↓an_rfl, ↓bt1 n00, ↓bt2 n00, ↓bf1 n10, ↓bf2 n10, ↓an_sz0, ↓an_sz1, ↓an_sz2, ↓an_sz3, ↓an_sz4, ↓an_ri, ↓an_rb0, ↓an_rb1, ↓an_b0, ↓an_b1, true_and, ↓ai_0s, ↓al_0s, ↓av_0s, ↓aq_0s, ↓ai_1s, ↓al_1s, ↓av_1s, ↓aq_1s, ↓ai_2s, ↓al_2s, ↓av_2s, ↓aq_2s, ↓ai_3s, ↓al_3s, ↓av_3s, ↓aq_3s, ↓ai_4s, ↓al_4s, ↓av_4s, ↓aq_4s, ↓ai_5s, ↓al_5s, ↓av_5s, ↓aq_5s, ↓ai_6s, ↓al_6s, ↓av_6s, ↓aq_6s, ↓ai_7s, ↓al_7s, ↓av_7s, ↓aq_7s, ↓an_l15, ↓bk_8009]
  rw [oW_some] at hs
  exact hs
set_option maxHeartbeats 4000000 in
set_option maxRecDepth 100000 in
theorem mF_8009 {tab : px_T} (hn : px_nd tab) {h : Nat} (hh : 4 ≤ h) {g8009 : px_M → Nat → Int32 → Int32 → Int32 → Option (Int64 × px_M)} (hg8009 : px_Ok tab pn_i8009 (h - 1) (Sg_8009 g8009)) : px_Ok tab pn_i8009 h (Sg_8009 (F_8009 tab g8009)) := by
  refine px_mth hn (by decide +kernel) (fun av σ k hS => ?_) (fun C hT hC av σ k hS => ?_)
  · obtain ⟨x0, av0, e0, h0⟩ := av_0p hS
    obtain ⟨x1, av1, e1, h1⟩ := ai_1p h0
    obtain ⟨x2, av2, e2, h2⟩ := ai_2p h1
    obtain ⟨x3, av3, e3, h3⟩ := ai_3p h2
    obtain ⟨ez, hs⟩ := h3
    subst ez
    subst e3
    subst e2
    subst e1
    subst e0
    exact Nat.le_of_ble_eq_true rfl
  · obtain ⟨x0, av0, e0, h0⟩ := av_0p hS
    obtain ⟨x1, av1, e1, h1⟩ := ai_1p h0
    obtain ⟨x2, av2, e2, h2⟩ := ai_2p h1
    obtain ⟨x3, av3, e3, h3⟩ := ai_3p h2
    obtain ⟨ez, hs⟩ := h3
    subst ez
    subst e3
    subst e2
    subst e1
    subst e0
    subst hT
    show px_W C k 0 [some (.inr (.inr (some x0))), some (.inl x1), some (.inl x2), some (.inl x3), none, none, none, none, none, none, none, none, none, none, none] [] σ
    refine px_runH (h - 1) ck_8009 [] [(10, kp_8009_10 (fun τ => oW (f_8009_10 (px_tb C) g8009 τ) (fun q => k (some (.inr (.inl q.1))) q.2))), (24, kp_8009_24 (fun y0 y1 y3 y4 y5 y7 y9 τ => oW (f_8009_24 (px_tb C) g8009 y0 y1 y3 y4 y5 y7 y9 τ) (fun q => k (some (.inr (.inl q.1))) q.2)))] 80 15 (some .long) rfl rfl hC px_nosp (by omega) (px_cut1 (kq_8009_10 (fun τ hq => by exact rl_8009_10 hn (by omega) hC hg8009  hq)) (px_cut1 (kq_8009_24 (fun y0 y1 y3 y4 y5 y7 y9 τ hq => by exact rl_8009_24 hn (by omega) hC hg8009 (y4, y5, y7, y9, τ) hq)) px_nocut)) (fun G Jf hG hJf => ?_)
    unfold F_8009 at hs
    by_cases hc0 : x1 < nI 0
    · replace hs := oW_t hs hc0
      simp (implicitDefEqProofs := false) only [↓hG, ↓hJf, ↓px_vc, ↓px_ex, ↓px_jp, ↓rq_gi_0, ↓rq_gi_S, ↓rq_gl_0, ↓rq_gl_S, ↓rq_gr_0, ↓rq_gr_S, ↓rq_s1_0, ↓rq_s1_1, ↓rq_s1_S, ↓rq_s2_0, ↓rq_s2_1, ↓rq_s2_S, ↓rq_nl_n, ↓rq_nl_i, ↓rq_nl_l, ↓rq_nl_r, ↓rq_i1_s, ↓rq_l1_s, ↓r1_s, ↓rq_q1_s, ↓rq_i2_s, ↓rq_l2_s, ↓rq_il_s, ↓rq_d0_s, ↓rq_d1_i, ↓rq_d1_r, ↓rq_d2_l, ↓rq_d2_ii, ↓rq_d2_ir, ↓px_pop, ↓px_sp, ↓px_rd, ↓px_rf, ↓pn_xf, ↓rq_pt_0, ↓rq_pt_1, ↓rq_pt_2, ↓rq_pt_3, ↓px_sw, ↓pn_SW, ↓px_ma, ↓reduceIte, Nat.reduceEqDiff, Nat.reduceAdd, Nat.reduceSub, ↓Option.toList_some, ↓Option.toList_none, ↓List.cons_append, ↓List.nil_append, ↓kI_s, ↓kJ_s, ↓kN_s, ↓kO_s, ↓kZ_s, ↓kE_s, ↓an_rfl, ↓bt1 n00, ↓bt2 n00, ↓bf1 n10, ↓bf2 n10, ↓an_sz0, ↓an_sz1, ↓an_sz2, ↓an_sz3, ↓an_sz4, ↓an_ri, ↓an_rb0, ↓an_rb1, ↓an_b0, ↓an_b1, true_and, ↓ai_0s, ↓al_0s, ↓av_0s, ↓aq_0s, ↓ai_1s, ↓al_1s, ↓av_1s, ↓aq_1s, ↓ai_2s, ↓al_2s, ↓av_2s, ↓aq_2s, ↓ai_3s, ↓al_3s, ↓av_3s, ↓aq_3s, ↓ai_4s, ↓al_4s, ↓av_4s, ↓aq_4s, ↓ai_5s, ↓al_5s, ↓av_5s, ↓aq_5s, ↓ai_6s, ↓al_6s, ↓av_6s, ↓aq_6s, ↓ai_7s, ↓al_7s, ↓av_7s, ↓aq_7s, ↓an_l15, ↓bk_8009, ↓kp_8009_10, ↓kp_8009_24, ↓bt1 hc0, ↓bt2 hc0]
      exact hs
    · replace hs := oW_f hs hc0
      by_cases hc1 : x1 < (nI 12)
      · replace hs := oW_t hs hc1
        simp (implicitDefEqProofs := false) only [↓hG, ↓hJf, ↓px_vc, ↓px_ex, ↓px_jp, ↓rq_gi_0, ↓rq_gi_S, ↓rq_gl_0, ↓rq_gl_S, ↓rq_gr_0, ↓rq_gr_S, ↓rq_s1_0, ↓rq_s1_1, ↓rq_s1_S, ↓rq_s2_0, ↓rq_s2_1, ↓rq_s2_S, ↓rq_nl_n, ↓rq_nl_i, ↓rq_nl_l, ↓rq_nl_r, ↓rq_i1_s, ↓rq_l1_s, ↓r1_s, ↓rq_q1_s, ↓rq_i2_s, ↓rq_l2_s, ↓rq_il_s, ↓rq_d0_s, ↓rq_d1_i, ↓rq_d1_r, ↓rq_d2_l, ↓rq_d2_ii, ↓rq_d2_ir, ↓px_pop, ↓px_sp, ↓px_rd, ↓px_rf, ↓pn_xf, ↓rq_pt_0, ↓rq_pt_1, ↓rq_pt_2, ↓rq_pt_3, ↓px_sw, ↓pn_SW, ↓px_ma, ↓reduceIte, Nat.reduceEqDiff, Nat.reduceAdd, Nat.reduceSub, ↓Option.toList_some, ↓Option.toList_none, ↓List.cons_append, ↓List.nil_append, ↓kI_s, ↓kJ_s, ↓kN_s, ↓kO_s, ↓kZ_s, ↓kE_s, ↓an_rfl, ↓bt1 n00, ↓bt2 n00, ↓bf1 n10, ↓bf2 n10, ↓an_sz0, ↓an_sz1, ↓an_sz2, ↓an_sz3, ↓an_sz4, ↓an_ri, ↓an_rb0, ↓an_rb1, ↓an_b0, ↓an_b1, true_and, ↓ai_0s, ↓al_0s, ↓av_0s, ↓aq_0s, ↓ai_1s, ↓al_1s, ↓av_1s, ↓aq_1s, ↓ai_2s, ↓al_2s, ↓av_2s, ↓aq_2s, ↓ai_3s, ↓al_3s, ↓av_3s, ↓aq_3s, ↓ai_4s, ↓al_4s, ↓av_4s, ↓aq_4s, ↓ai_5s, ↓al_5s, ↓av_5s, ↓aq_5s, ↓ai_6s, ↓al_6s, ↓av_6s, ↓aq_6s, ↓ai_7s, ↓al_7s, ↓av_7s, ↓aq_7s, ↓an_l15, ↓bk_8009, ↓kp_8009_10, ↓kp_8009_24, ↓bf1 hc0, ↓bf2 hc0, ↓bt1 hc1, ↓bt2 hc1]
        exact hs
      · replace hs := oW_f hs hc1
        simp (implicitDefEqProofs := false) only [↓hG, ↓hJf, ↓px_vc, ↓px_ex, ↓px_jp, ↓rq_gi_0, ↓rq_gi_S, ↓rq_gl_0, ↓rq_gl_S, ↓rq_gr_0, ↓rq_gr_S, ↓rq_s1_0, ↓rq_s1_1, ↓rq_s1_S, ↓rq_s2_0, ↓rq_s2_1, ↓rq_s2_S, ↓rq_nl_n, ↓rq_nl_i, ↓rq_nl_l, ↓rq_nl_r, ↓rq_i1_s, ↓rq_l1_s, ↓r1_s, ↓rq_q1_s, ↓rq_i2_s, ↓rq_l2_s, ↓rq_il_s, ↓rq_d0_s, ↓rq_d1_i, ↓rq_d1_r, ↓rq_d2_l, ↓rq_d2_ii, ↓rq_d2_ir, ↓px_pop, ↓px_sp, ↓px_rd, ↓px_rf, ↓pn_xf, ↓rq_pt_0, ↓rq_pt_1, ↓rq_pt_2, ↓rq_pt_3, ↓px_sw, ↓pn_SW, ↓px_ma, ↓reduceIte, Nat.reduceEqDiff, Nat.reduceAdd, Nat.reduceSub, ↓Option.toList_some, ↓Option.toList_none, ↓List.cons_append, ↓List.nil_append, ↓kI_s, ↓kJ_s, ↓kN_s, ↓kO_s, ↓kZ_s, ↓kE_s, ↓an_rfl, ↓bt1 n00, ↓bt2 n00, ↓bf1 n10, ↓bf2 n10, ↓an_sz0, ↓an_sz1, ↓an_sz2, ↓an_sz3, ↓an_sz4, ↓an_ri, ↓an_rb0, ↓an_rb1, ↓an_b0, ↓an_b1, true_and, ↓ai_0s, ↓al_0s, ↓av_0s, ↓aq_0s, ↓ai_1s, ↓al_1s, ↓av_1s, ↓aq_1s, ↓ai_2s, ↓al_2s, ↓av_2s, ↓aq_2s, ↓ai_3s, ↓al_3s, ↓av_3s, ↓aq_3s, ↓ai_4s, ↓al_4s, ↓av_4s, ↓aq_4s, ↓ai_5s, ↓al_5s, ↓av_5s, ↓aq_5s, ↓ai_6s, ↓al_6s, ↓av_6s, ↓aq_6s, ↓ai_7s, ↓al_7s, ↓av_7s, ↓aq_7s, ↓an_l15, ↓bk_8009, ↓kp_8009_10, ↓kp_8009_24, ↓bf1 hc0, ↓bf2 hc0, ↓bf1 hc1, ↓bf2 hc1]
        exact hs
noncomputable def fr_8009 (tab : px_T) : Nat → (px_M → Nat → Int32 → Int32 → Int32 → Option (Int64 × px_M))
  | 0 => fun _ _ _ _ _ => none
  | d + 1 => F_8009 tab ((fr_8009 tab d))
noncomputable def f_8009 (tab : px_T) (d : Nat) : px_M → Nat → Int32 → Int32 → Int32 → Option (Int64 × px_M) := fr_8009 tab d
theorem f_8009_S (tab : px_T) (d : Nat) : f_8009 tab (d + 1) = F_8009 tab (f_8009 tab d) := rfl
theorem mr_f8009 {tab : px_T} (hn : px_nd tab) : ∀ (d h : Nat), 3 + d ≤ h → px_Ok tab pn_i8009 h (Sg_8009 (f_8009 tab d)) := by
  intro d
  induction d with
  | zero =>
    intro h hh
    exact px_Ok_no (fun av σ k h0 => by obtain ⟨x0, av0, -, h1⟩ := av_0p h0; obtain ⟨x1, av1, -, h2⟩ := ai_1p h1; obtain ⟨x2, av2, -, h3⟩ := ai_2p h2; obtain ⟨x3, av3, -, h4⟩ := ai_3p h3; obtain ⟨x, hx, -⟩ := h4.2; cases hx)
  | succ d ih =>
    intro h hh
    have h8009 := ih (h - 1) (by omega)
    exact mF_8009 hn (by omega) h8009
theorem mf_8009 {tab : px_T} (hn : px_nd tab) {h d : Nat} (hh : 3 + d ≤ h) : px_Ok tab pn_i8009 h (Sg_8009 (f_8009 tab d)) := (mr_f8009 hn d h hh)
