/-! shallow functions, printed by wip/whole/decomp.py -/
def Sg_24 (g : px_M → Nat → Int32 → Option (px_M)) : px_S := fun av σ k => av_0 av (fun x0 av => ai_1 av (fun x1 av => av = [] ∧ oW (g σ x0 x1) (fun τ => k none τ)))
def Sg_25 (g : px_M → Nat → Int32 → Option (px_M)) : px_S := fun av σ k => av_0 av (fun x0 av => ai_1 av (fun x1 av => av = [] ∧ oW (g σ x0 x1) (fun τ => k none τ)))
def Sg_26 (g : px_M → Nat → Int32 → Option (px_M)) : px_S := fun av σ k => av_0 av (fun x0 av => ai_1 av (fun x1 av => av = [] ∧ oW (g σ x0 x1) (fun τ => k none τ)))
/-- NoThreeModel.readUnit(I)V -/
noncomputable def f_24_151 (tab : px_T) (g24 : px_M → Nat → Int32 → Option (px_M)) (g25 : px_M → Nat → Int32 → Option (px_M)) (g26 : px_M → Nat → Int32 → Option (px_M)) (σ : px_M) (x0 : Nat) (x1 : Int32) (x2 : Int32) : Option (px_M) := gd (px_obj (px_lay tab x0) 0) ((f_23 tab 60 σ x0 x1).bind fun q1 => (f_19 tab q1 x0 x2).bind fun q2 => some (q2))
noncomputable def f_24_146 (tab : px_T) (g24 : px_M → Nat → Int32 → Option (px_M)) (g25 : px_M → Nat → Int32 → Option (px_M)) (g26 : px_M → Nat → Int32 → Option (px_M)) (σ : px_M) (x0 : Nat) (x1 : Int32) (x2 : Int32) : Option (px_M) := gd (px_obj (px_lay tab x0) 0) ((f_10 tab σ x0 ((nI 2))).bind fun q1 => f_24_151 tab g24 g25 g26 q1 x0 x1 x2)
noncomputable def f_24_139 (tab : px_T) (g24 : px_M → Nat → Int32 → Option (px_M)) (g25 : px_M → Nat → Int32 → Option (px_M)) (g26 : px_M → Nat → Int32 → Option (px_M)) (σ : px_M) (x0 : Nat) (x1 : Int32) (x2 : Int32) : Option (px_M) := gd (px_obj (px_lay tab x0) 0) ((f_9 tab σ x0).bind fun q1 => f_24_151 tab g24 g25 g26 q1 x0 x1 x2)
noncomputable def f_24_112 (tab : px_T) (g24 : px_M → Nat → Int32 → Option (px_M)) (g25 : px_M → Nat → Int32 → Option (px_M)) (g26 : px_M → Nat → Int32 → Option (px_M)) (σ : px_M) (x0 : Nat) (x1 : Int32) (x2 : Int32) : Option (px_M) := gd (px_obj (px_lay tab x0) 0) ((f_11 tab σ x0 ((nI 29))).bind fun r1 => bn (r1 = nI 0) (f_24_139 tab g24 g25 g26 σ x0 x1 x2) ((f_11 tab σ x0 ((nI 30))).bind fun r2 => bn (r2 = nI 0) (f_24_139 tab g24 g25 g26 σ x0 x1 x2) ((f_11 tab σ x0 ((nI 31))).bind fun r3 => if r3 = nI 0 then (f_24_146 tab g24 g25 g26 σ x0 x1 x2) else (f_24_139 tab g24 g25 g26 σ x0 x1 x2))))
noncomputable def f_24_78 (tab : px_T) (g24 : px_M → Nat → Int32 → Option (px_M)) (g25 : px_M → Nat → Int32 → Option (px_M)) (g26 : px_M → Nat → Int32 → Option (px_M)) (σ : px_M) (x0 : Nat) (x1 : Int32) : Option (px_M) := gd (px_obj (px_lay tab x0) 0) ((f_11 tab σ x0 ((nI 29))).bind fun r1 => if r1 = nI 0 then ((f_11 tab σ x0 ((nI 30))).bind fun r2 => if r2 = nI 0 then (f_24_112 tab g24 g25 g26 σ x0 x1 ((nI 3005))) else (f_24_112 tab g24 g25 g26 σ x0 x1 ((nI 3004)))) else (f_24_112 tab g24 g25 g26 σ x0 x1 ((nI 3003))))
noncomputable def f_24_51 (tab : px_T) (g24 : px_M → Nat → Int32 → Option (px_M)) (g25 : px_M → Nat → Int32 → Option (px_M)) (g26 : px_M → Nat → Int32 → Option (px_M)) (σ : px_M) (x0 : Nat) (x1 : Int32) : Option (px_M) := gd (px_obj (px_lay tab x0) 0) ((g26 σ x0 ((x1 + (nI 1)))).bind fun q1 => (f_12 tab q1 x0 ((nI 28))).bind fun q2 => bn (q2.1 = nI 0) (some (q2.2)) ((f_10 tab q2.2 x0 ((nI 2))).bind fun q3 => some (q3)))
noncomputable def f_24_25 (tab : px_T) (g24 : px_M → Nat → Int32 → Option (px_M)) (g25 : px_M → Nat → Int32 → Option (px_M)) (g26 : px_M → Nat → Int32 → Option (px_M)) (σ : px_M) (x0 : Nat) : Option (px_M) := gd (px_obj (px_lay tab x0) 0) ((f_19 tab σ x0 ((nI 3008))).bind fun q1 => some (q1))
noncomputable def F_24 (tab : px_T) (g24 : px_M → Nat → Int32 → Option (px_M)) (g25 : px_M → Nat → Int32 → Option (px_M)) (g26 : px_M → Nat → Int32 → Option (px_M)) (σ : px_M) (x0 : Nat) (x1 : Int32) : Option (px_M) := gd (px_obj (px_lay tab x0) 0) ((f_11 tab σ x0 ((nI 6))).bind fun r1 => if r1 = nI 0 then ((f_11 tab σ x0 ((nI 27))).bind fun r2 => if r2 = nI 0 then ((f_23 tab 60 σ x0 x1).bind fun q3 => f_24_78 tab g24 g25 g26 q3 x0 x1) else ((f_20 tab σ x0 x1).bind fun q4 => bn (q4.1 = nI 0) (f_24_51 tab g24 g25 g26 q4.2 x0 x1) (some (q4.2)))) else ((f_20 tab σ x0 x1).bind fun q5 => bn (q5.1 = nI 0) ((g24 q5.2 x0 ((x1 + (nI 1)))).bind fun q6 => f_24_25 tab g24 g25 g26 q6 x0) (some (q5.2))))
def kp_24_151 (Q : Nat → Int32 → Int32 → px_M → Prop) : px_P := fun ls st τ => st = [] ∧ kN ls (fun x0 ls => kI ls (fun x1 ls => kI ls (fun x2 ls => kE ls (Q x0 x1 x2 τ))))
theorem kq_24_151 {C : px_C} {k : Option px_V → px_M → Prop} {Q : Nat → Int32 → Int32 → px_M → Prop} (H : ∀ (x0 : Nat) (x1 : Int32) (x2 : Int32) (τ : px_M), Q x0 x1 x2 τ → px_W C k 151 [some (.inr (.inr (some x0))), some (.inl x1), some (.inl x2)] [] τ) : ∀ ls st τ, kp_24_151 Q ls st τ → px_W C k 151 ls st τ := by
  intro ls st τ hz
  obtain ⟨ez, h0⟩ := hz
  obtain ⟨x0, l0, e0, h1⟩ := kN_sp h0
  obtain ⟨x1, l1, e1, h2⟩ := kI_sp h1
  obtain ⟨x2, l2, e2, h3⟩ := kI_sp h2
  obtain ⟨ey, hy⟩ := kE_sp h3
  subst ez
  subst ey
  subst e2
  subst e1
  subst e0
  exact H x0 x1 x2 τ hy
def kp_24_146 (Q : Nat → Int32 → Int32 → px_M → Prop) : px_P := fun ls st τ => st = [] ∧ kN ls (fun x0 ls => kI ls (fun x1 ls => kI ls (fun x2 ls => kE ls (Q x0 x1 x2 τ))))
theorem kq_24_146 {C : px_C} {k : Option px_V → px_M → Prop} {Q : Nat → Int32 → Int32 → px_M → Prop} (H : ∀ (x0 : Nat) (x1 : Int32) (x2 : Int32) (τ : px_M), Q x0 x1 x2 τ → px_W C k 146 [some (.inr (.inr (some x0))), some (.inl x1), some (.inl x2)] [] τ) : ∀ ls st τ, kp_24_146 Q ls st τ → px_W C k 146 ls st τ := by
  intro ls st τ hz
  obtain ⟨ez, h0⟩ := hz
  obtain ⟨x0, l0, e0, h1⟩ := kN_sp h0
  obtain ⟨x1, l1, e1, h2⟩ := kI_sp h1
  obtain ⟨x2, l2, e2, h3⟩ := kI_sp h2
  obtain ⟨ey, hy⟩ := kE_sp h3
  subst ez
  subst ey
  subst e2
  subst e1
  subst e0
  exact H x0 x1 x2 τ hy
def kp_24_139 (Q : Nat → Int32 → Int32 → px_M → Prop) : px_P := fun ls st τ => st = [] ∧ kN ls (fun x0 ls => kI ls (fun x1 ls => kI ls (fun x2 ls => kE ls (Q x0 x1 x2 τ))))
theorem kq_24_139 {C : px_C} {k : Option px_V → px_M → Prop} {Q : Nat → Int32 → Int32 → px_M → Prop} (H : ∀ (x0 : Nat) (x1 : Int32) (x2 : Int32) (τ : px_M), Q x0 x1 x2 τ → px_W C k 139 [some (.inr (.inr (some x0))), some (.inl x1), some (.inl x2)] [] τ) : ∀ ls st τ, kp_24_139 Q ls st τ → px_W C k 139 ls st τ := by
  intro ls st τ hz
  obtain ⟨ez, h0⟩ := hz
  obtain ⟨x0, l0, e0, h1⟩ := kN_sp h0
  obtain ⟨x1, l1, e1, h2⟩ := kI_sp h1
  obtain ⟨x2, l2, e2, h3⟩ := kI_sp h2
  obtain ⟨ey, hy⟩ := kE_sp h3
  subst ez
  subst ey
  subst e2
  subst e1
  subst e0
  exact H x0 x1 x2 τ hy
def kp_24_112 (Q : Nat → Int32 → Int32 → px_M → Prop) : px_P := fun ls st τ => st = [] ∧ kN ls (fun x0 ls => kI ls (fun x1 ls => kI ls (fun x2 ls => kE ls (Q x0 x1 x2 τ))))
theorem kq_24_112 {C : px_C} {k : Option px_V → px_M → Prop} {Q : Nat → Int32 → Int32 → px_M → Prop} (H : ∀ (x0 : Nat) (x1 : Int32) (x2 : Int32) (τ : px_M), Q x0 x1 x2 τ → px_W C k 112 [some (.inr (.inr (some x0))), some (.inl x1), some (.inl x2)] [] τ) : ∀ ls st τ, kp_24_112 Q ls st τ → px_W C k 112 ls st τ := by
  intro ls st τ hz
  obtain ⟨ez, h0⟩ := hz
  obtain ⟨x0, l0, e0, h1⟩ := kN_sp h0
  obtain ⟨x1, l1, e1, h2⟩ := kI_sp h1
  obtain ⟨x2, l2, e2, h3⟩ := kI_sp h2
  obtain ⟨ey, hy⟩ := kE_sp h3
  subst ez
  subst ey
  subst e2
  subst e1
  subst e0
  exact H x0 x1 x2 τ hy
def kp_24_78 (Q : Nat → Int32 → px_M → Prop) : px_P := fun ls st τ => st = [] ∧ kN ls (fun x0 ls => kI ls (fun x1 ls => kZ ls (fun ls => kE ls (Q x0 x1 τ))))
theorem kq_24_78 {C : px_C} {k : Option px_V → px_M → Prop} {Q : Nat → Int32 → px_M → Prop} (H : ∀ (x0 : Nat) (x1 : Int32) (τ : px_M), Q x0 x1 τ → ∀ (z2 : Option px_V), px_W C k 78 [some (.inr (.inr (some x0))), some (.inl x1), z2] [] τ) : ∀ ls st τ, kp_24_78 Q ls st τ → px_W C k 78 ls st τ := by
  intro ls st τ hz
  obtain ⟨ez, h0⟩ := hz
  obtain ⟨x0, l0, e0, h1⟩ := kN_sp h0
  obtain ⟨x1, l1, e1, h2⟩ := kI_sp h1
  obtain ⟨z2, l2, e2, h3⟩ := kZ_sp h2
  obtain ⟨ey, hy⟩ := kE_sp h3
  subst ez
  subst ey
  subst e2
  subst e1
  subst e0
  exact H x0 x1 τ hy z2
def kp_24_51 (Q : Nat → Int32 → px_M → Prop) : px_P := fun ls st τ => st = [] ∧ kN ls (fun x0 ls => kI ls (fun x1 ls => kZ ls (fun ls => kE ls (Q x0 x1 τ))))
theorem kq_24_51 {C : px_C} {k : Option px_V → px_M → Prop} {Q : Nat → Int32 → px_M → Prop} (H : ∀ (x0 : Nat) (x1 : Int32) (τ : px_M), Q x0 x1 τ → ∀ (z2 : Option px_V), px_W C k 51 [some (.inr (.inr (some x0))), some (.inl x1), z2] [] τ) : ∀ ls st τ, kp_24_51 Q ls st τ → px_W C k 51 ls st τ := by
  intro ls st τ hz
  obtain ⟨ez, h0⟩ := hz
  obtain ⟨x0, l0, e0, h1⟩ := kN_sp h0
  obtain ⟨x1, l1, e1, h2⟩ := kI_sp h1
  obtain ⟨z2, l2, e2, h3⟩ := kZ_sp h2
  obtain ⟨ey, hy⟩ := kE_sp h3
  subst ez
  subst ey
  subst e2
  subst e1
  subst e0
  exact H x0 x1 τ hy z2
def kp_24_25 (Q : Nat → px_M → Prop) : px_P := fun ls st τ => st = [] ∧ kN ls (fun x0 ls => kZ ls (fun ls => kZ ls (fun ls => kE ls (Q x0 τ))))
theorem kq_24_25 {C : px_C} {k : Option px_V → px_M → Prop} {Q : Nat → px_M → Prop} (H : ∀ (x0 : Nat) (τ : px_M), Q x0 τ → ∀ (z1 : Option px_V) (z2 : Option px_V), px_W C k 25 [some (.inr (.inr (some x0))), z1, z2] [] τ) : ∀ ls st τ, kp_24_25 Q ls st τ → px_W C k 25 ls st τ := by
  intro ls st τ hz
  obtain ⟨ez, h0⟩ := hz
  obtain ⟨x0, l0, e0, h1⟩ := kN_sp h0
  obtain ⟨z1, l1, e1, h2⟩ := kZ_sp h1
  obtain ⟨z2, l2, e2, h3⟩ := kZ_sp h2
  obtain ⟨ey, hy⟩ := kE_sp h3
  subst ez
  subst ey
  subst e2
  subst e1
  subst e0
  exact H x0 τ hy z1 z2
set_option maxHeartbeats 4000000 in
set_option maxRecDepth 100000 in
theorem rl_24_151 {C : px_C} (hn : px_nd (px_tb C)) {h : Nat} (hh : 69 ≤ h) (hC : px_ok C pn_i24 h) {g24 : px_M → Nat → Int32 → Option (px_M)} {g25 : px_M → Nat → Int32 → Option (px_M)} {g26 : px_M → Nat → Int32 → Option (px_M)} (hg24 : px_Ok (px_tb C) pn_i24 (h - 1) (Sg_24 g24)) (hg25 : px_Ok (px_tb C) pn_i25 (h - 1) (Sg_25 g25)) (hg26 : px_Ok (px_tb C) pn_i26 (h - 1) (Sg_26 g26)) {k : Option px_V → px_M → Prop} {x0 : Nat} {x1 : Int32} {x2 : Int32} {σ : px_M} (hs : oW (f_24_151 (px_tb C) g24 g25 g26 σ x0 x1 x2) (fun τ => k none τ)) : px_W C k 151 [some (.inr (.inr (some x0))), some (.inl x1), some (.inl x2)] [] σ := by
  refine px_runH (h - 1) ck_24 [(19, Sg_19 (f_19 (px_tb C))), (23, Sg_23 (f_23 (px_tb C) 60))] [] 80 3 none rfl rfl hC (px_sp1 (mf_19 hn (by omega)) (px_sp1 (mf_23 hn (by omega)) px_nosp)) (by omega) px_nocut (fun G Jf hG hJf => ?_)
  unfold f_24_151 at hs
  obtain ⟨hc0, hs⟩ := oW_gx hs
  obtain ⟨q1, hc1, hs⟩ := oW_bx hs
  obtain ⟨q2, hc2, hs⟩ := oW_bx hs
  simp only [↓hG, ↓hJf, ↓px_vc, ↓px_ex, ↓px_jp, ↓px_gi, ↓px_gl, ↓px_gr, ↓px_s1, ↓px_s2, ↓px_nl, ↓px_i1, ↓px_l1, ↓r1_s, ↓px_q1, ↓px_i2, ↓px_l2, ↓px_il, ↓px_d0, ↓px_d1, ↓px_d2, ↓px_pop, ↓px_sp, ↓px_rd, ↓px_rf, ↓pn_xf, ↓px_pt, ↓px_sw, ↓pn_SW, ↓px_ma, ↓reduceIte, Nat.reduceEqDiff, Nat.reduceAdd, Nat.reduceSub, ↓Option.toList_some, ↓Option.toList_none, ↓List.cons_append, ↓List.nil_append, ↓kI_s, ↓kJ_s, ↓kN_s, ↓kO_s, ↓kZ_s, ↓kE_s, ↓an_rfl, ↓bt1 n00, ↓bt2 n00, ↓bf1 n10, ↓bf2 n10, ↓an_sz0, ↓an_sz1, ↓an_sz2, ↓an_sz3, ↓an_sz4, ↓an_ri, ↓an_rb0, ↓an_rb1, ↓an_b0, ↓an_b1, true_and, ↓ai_0s, ↓al_0s, ↓av_0s, ↓aq_0s, ↓ai_1s, ↓al_1s, ↓av_1s, ↓aq_1s, ↓ai_2s, ↓al_2s, ↓av_2s, ↓aq_2s, ↓ai_3s, ↓al_3s, ↓av_3s, ↓aq_3s, ↓ai_4s, ↓al_4s, ↓av_4s, ↓aq_4s, ↓ai_5s, ↓al_5s, ↓av_5s, ↓aq_5s, ↓ai_6s, ↓al_6s, ↓av_6s, ↓aq_6s, ↓ai_7s, ↓al_7s, ↓av_7s, ↓aq_7s, ↓an_l3, ↓bk_24, ↓Sg_19, ↓Sg_23, ↓an_t hc0, ↓an_rv hc0, ↓oW_e hc1, ↓oW_e hc2]
  rw [oW_some] at hs
  exact hs
set_option maxHeartbeats 4000000 in
set_option maxRecDepth 100000 in
theorem rl_24_146 {C : px_C} (hn : px_nd (px_tb C)) {h : Nat} (hh : 69 ≤ h) (hC : px_ok C pn_i24 h) {g24 : px_M → Nat → Int32 → Option (px_M)} {g25 : px_M → Nat → Int32 → Option (px_M)} {g26 : px_M → Nat → Int32 → Option (px_M)} (hg24 : px_Ok (px_tb C) pn_i24 (h - 1) (Sg_24 g24)) (hg25 : px_Ok (px_tb C) pn_i25 (h - 1) (Sg_25 g25)) (hg26 : px_Ok (px_tb C) pn_i26 (h - 1) (Sg_26 g26)) {k : Option px_V → px_M → Prop} {x0 : Nat} {x1 : Int32} {x2 : Int32} {σ : px_M} (hs : oW (f_24_146 (px_tb C) g24 g25 g26 σ x0 x1 x2) (fun τ => k none τ)) : px_W C k 146 [some (.inr (.inr (some x0))), some (.inl x1), some (.inl x2)] [] σ := by
  refine px_runH (h - 1) ck_24 [(10, Sg_10 (f_10 (px_tb C)))] [(151, kp_24_151 (fun y0 y1 y2 τ => oW (f_24_151 (px_tb C) g24 g25 g26 τ y0 y1 y2) (fun τ => k none τ)))] 80 3 none rfl rfl hC (px_sp1 (mf_10 hn (by omega)) px_nosp) (by omega) (px_cut1 (kq_24_151 (fun y0 y1 y2 τ hq => by exact rl_24_151 hn (by omega) hC hg24 hg25 hg26  hq)) px_nocut) (fun G Jf hG hJf => ?_)
  unfold f_24_146 at hs
  obtain ⟨hc0, hs⟩ := oW_gx hs
  obtain ⟨q1, hc1, hs⟩ := oW_bx hs
  simp only [↓hG, ↓hJf, ↓px_vc, ↓px_ex, ↓px_jp, ↓px_gi, ↓px_gl, ↓px_gr, ↓px_s1, ↓px_s2, ↓px_nl, ↓px_i1, ↓px_l1, ↓r1_s, ↓px_q1, ↓px_i2, ↓px_l2, ↓px_il, ↓px_d0, ↓px_d1, ↓px_d2, ↓px_pop, ↓px_sp, ↓px_rd, ↓px_rf, ↓pn_xf, ↓px_pt, ↓px_sw, ↓pn_SW, ↓px_ma, ↓reduceIte, Nat.reduceEqDiff, Nat.reduceAdd, Nat.reduceSub, ↓Option.toList_some, ↓Option.toList_none, ↓List.cons_append, ↓List.nil_append, ↓kI_s, ↓kJ_s, ↓kN_s, ↓kO_s, ↓kZ_s, ↓kE_s, ↓an_rfl, ↓bt1 n00, ↓bt2 n00, ↓bf1 n10, ↓bf2 n10, ↓an_sz0, ↓an_sz1, ↓an_sz2, ↓an_sz3, ↓an_sz4, ↓an_ri, ↓an_rb0, ↓an_rb1, ↓an_b0, ↓an_b1, true_and, ↓ai_0s, ↓al_0s, ↓av_0s, ↓aq_0s, ↓ai_1s, ↓al_1s, ↓av_1s, ↓aq_1s, ↓ai_2s, ↓al_2s, ↓av_2s, ↓aq_2s, ↓ai_3s, ↓al_3s, ↓av_3s, ↓aq_3s, ↓ai_4s, ↓al_4s, ↓av_4s, ↓aq_4s, ↓ai_5s, ↓al_5s, ↓av_5s, ↓aq_5s, ↓ai_6s, ↓al_6s, ↓av_6s, ↓aq_6s, ↓ai_7s, ↓al_7s, ↓av_7s, ↓aq_7s, ↓an_l3, ↓bk_24, ↓Sg_10, ↓kp_24_151, ↓an_t hc0, ↓an_rv hc0, ↓oW_e hc1]
  exact hs
set_option maxHeartbeats 4000000 in
set_option maxRecDepth 100000 in
theorem rl_24_139 {C : px_C} (hn : px_nd (px_tb C)) {h : Nat} (hh : 69 ≤ h) (hC : px_ok C pn_i24 h) {g24 : px_M → Nat → Int32 → Option (px_M)} {g25 : px_M → Nat → Int32 → Option (px_M)} {g26 : px_M → Nat → Int32 → Option (px_M)} (hg24 : px_Ok (px_tb C) pn_i24 (h - 1) (Sg_24 g24)) (hg25 : px_Ok (px_tb C) pn_i25 (h - 1) (Sg_25 g25)) (hg26 : px_Ok (px_tb C) pn_i26 (h - 1) (Sg_26 g26)) {k : Option px_V → px_M → Prop} {x0 : Nat} {x1 : Int32} {x2 : Int32} {σ : px_M} (hs : oW (f_24_139 (px_tb C) g24 g25 g26 σ x0 x1 x2) (fun τ => k none τ)) : px_W C k 139 [some (.inr (.inr (some x0))), some (.inl x1), some (.inl x2)] [] σ := by
  refine px_runH (h - 1) ck_24 [(9, Sg_9 (f_9 (px_tb C)))] [(151, kp_24_151 (fun y0 y1 y2 τ => oW (f_24_151 (px_tb C) g24 g25 g26 τ y0 y1 y2) (fun τ => k none τ)))] 80 3 none rfl rfl hC (px_sp1 (mf_9 hn (by omega)) px_nosp) (by omega) (px_cut1 (kq_24_151 (fun y0 y1 y2 τ hq => by exact rl_24_151 hn (by omega) hC hg24 hg25 hg26  hq)) px_nocut) (fun G Jf hG hJf => ?_)
  unfold f_24_139 at hs
  obtain ⟨hc0, hs⟩ := oW_gx hs
  obtain ⟨q1, hc1, hs⟩ := oW_bx hs
  simp only [↓hG, ↓hJf, ↓px_vc, ↓px_ex, ↓px_jp, ↓px_gi, ↓px_gl, ↓px_gr, ↓px_s1, ↓px_s2, ↓px_nl, ↓px_i1, ↓px_l1, ↓r1_s, ↓px_q1, ↓px_i2, ↓px_l2, ↓px_il, ↓px_d0, ↓px_d1, ↓px_d2, ↓px_pop, ↓px_sp, ↓px_rd, ↓px_rf, ↓pn_xf, ↓px_pt, ↓px_sw, ↓pn_SW, ↓px_ma, ↓reduceIte, Nat.reduceEqDiff, Nat.reduceAdd, Nat.reduceSub, ↓Option.toList_some, ↓Option.toList_none, ↓List.cons_append, ↓List.nil_append, ↓kI_s, ↓kJ_s, ↓kN_s, ↓kO_s, ↓kZ_s, ↓kE_s, ↓an_rfl, ↓bt1 n00, ↓bt2 n00, ↓bf1 n10, ↓bf2 n10, ↓an_sz0, ↓an_sz1, ↓an_sz2, ↓an_sz3, ↓an_sz4, ↓an_ri, ↓an_rb0, ↓an_rb1, ↓an_b0, ↓an_b1, true_and, ↓ai_0s, ↓al_0s, ↓av_0s, ↓aq_0s, ↓ai_1s, ↓al_1s, ↓av_1s, ↓aq_1s, ↓ai_2s, ↓al_2s, ↓av_2s, ↓aq_2s, ↓ai_3s, ↓al_3s, ↓av_3s, ↓aq_3s, ↓ai_4s, ↓al_4s, ↓av_4s, ↓aq_4s, ↓ai_5s, ↓al_5s, ↓av_5s, ↓aq_5s, ↓ai_6s, ↓al_6s, ↓av_6s, ↓aq_6s, ↓ai_7s, ↓al_7s, ↓av_7s, ↓aq_7s, ↓an_l3, ↓bk_24, ↓Sg_9, ↓kp_24_151, ↓an_t hc0, ↓an_rv hc0, ↓oW_e hc1]
  exact hs
set_option maxHeartbeats 4000000 in
set_option maxRecDepth 100000 in
theorem rl_24_112 {C : px_C} (hn : px_nd (px_tb C)) {h : Nat} (hh : 69 ≤ h) (hC : px_ok C pn_i24 h) {g24 : px_M → Nat → Int32 → Option (px_M)} {g25 : px_M → Nat → Int32 → Option (px_M)} {g26 : px_M → Nat → Int32 → Option (px_M)} (hg24 : px_Ok (px_tb C) pn_i24 (h - 1) (Sg_24 g24)) (hg25 : px_Ok (px_tb C) pn_i25 (h - 1) (Sg_25 g25)) (hg26 : px_Ok (px_tb C) pn_i26 (h - 1) (Sg_26 g26)) {k : Option px_V → px_M → Prop} {x0 : Nat} {x1 : Int32} {x2 : Int32} {σ : px_M} (hs : oW (f_24_112 (px_tb C) g24 g25 g26 σ x0 x1 x2) (fun τ => k none τ)) : px_W C k 112 [some (.inr (.inr (some x0))), some (.inl x1), some (.inl x2)] [] σ := by
  refine px_runH (h - 1) ck_24 [(11, Sg_11 (f_11 (px_tb C)))] [(139, kp_24_139 (fun y0 y1 y2 τ => oW (f_24_139 (px_tb C) g24 g25 g26 τ y0 y1 y2) (fun τ => k none τ))), (146, kp_24_146 (fun y0 y1 y2 τ => oW (f_24_146 (px_tb C) g24 g25 g26 τ y0 y1 y2) (fun τ => k none τ)))] 80 3 none rfl rfl hC (px_sp1 (mf_11 hn (by omega)) px_nosp) (by omega) (px_cut1 (kq_24_139 (fun y0 y1 y2 τ hq => by exact rl_24_139 hn (by omega) hC hg24 hg25 hg26  hq)) (px_cut1 (kq_24_146 (fun y0 y1 y2 τ hq => by exact rl_24_146 hn (by omega) hC hg24 hg25 hg26  hq)) px_nocut)) (fun G Jf hG hJf => ?_)
  unfold f_24_112 at hs
  obtain ⟨hc0, hs⟩ := oW_gx hs
  obtain ⟨r1, hc1, hs⟩ := oW_bx hs
  by_cases hc2 : r1 = nI 0
  · replace hs := bW_t hs hc2
    obtain ⟨r2, hc3, hs⟩ := oW_bx hs
    by_cases hc4 : r2 = nI 0
    · replace hs := bW_t hs hc4
      obtain ⟨r3, hc5, hs⟩ := oW_bx hs
      by_cases hc6 : r3 = nI 0
      · replace hs := oW_t hs hc6
        simp only [↓hG, ↓hJf, ↓px_vc, ↓px_ex, ↓px_jp, ↓px_gi, ↓px_gl, ↓px_gr, ↓px_s1, ↓px_s2, ↓px_nl, ↓px_i1, ↓px_l1, ↓r1_s, ↓px_q1, ↓px_i2, ↓px_l2, ↓px_il, ↓px_d0, ↓px_d1, ↓px_d2, ↓px_pop, ↓px_sp, ↓px_rd, ↓px_rf, ↓pn_xf, ↓px_pt, ↓px_sw, ↓pn_SW, ↓px_ma, ↓reduceIte, Nat.reduceEqDiff, Nat.reduceAdd, Nat.reduceSub, ↓Option.toList_some, ↓Option.toList_none, ↓List.cons_append, ↓List.nil_append, ↓kI_s, ↓kJ_s, ↓kN_s, ↓kO_s, ↓kZ_s, ↓kE_s, ↓an_rfl, ↓bt1 n00, ↓bt2 n00, ↓bf1 n10, ↓bf2 n10, ↓an_sz0, ↓an_sz1, ↓an_sz2, ↓an_sz3, ↓an_sz4, ↓an_ri, ↓an_rb0, ↓an_rb1, ↓an_b0, ↓an_b1, true_and, ↓ai_0s, ↓al_0s, ↓av_0s, ↓aq_0s, ↓ai_1s, ↓al_1s, ↓av_1s, ↓aq_1s, ↓ai_2s, ↓al_2s, ↓av_2s, ↓aq_2s, ↓ai_3s, ↓al_3s, ↓av_3s, ↓aq_3s, ↓ai_4s, ↓al_4s, ↓av_4s, ↓aq_4s, ↓ai_5s, ↓al_5s, ↓av_5s, ↓aq_5s, ↓ai_6s, ↓al_6s, ↓av_6s, ↓aq_6s, ↓ai_7s, ↓al_7s, ↓av_7s, ↓aq_7s, ↓an_l3, ↓bk_24, ↓Sg_11, ↓kp_24_139, ↓kp_24_146, ↓an_t hc0, ↓an_rv hc0, ↓oW_e hc1, ↓bt1 hc2, ↓bt2 hc2, ↓oW_e hc3, ↓bt1 hc4, ↓bt2 hc4, ↓oW_e hc5, ↓bt1 hc6, ↓bt2 hc6]
        exact hs
      · replace hs := oW_f hs hc6
        simp only [↓hG, ↓hJf, ↓px_vc, ↓px_ex, ↓px_jp, ↓px_gi, ↓px_gl, ↓px_gr, ↓px_s1, ↓px_s2, ↓px_nl, ↓px_i1, ↓px_l1, ↓r1_s, ↓px_q1, ↓px_i2, ↓px_l2, ↓px_il, ↓px_d0, ↓px_d1, ↓px_d2, ↓px_pop, ↓px_sp, ↓px_rd, ↓px_rf, ↓pn_xf, ↓px_pt, ↓px_sw, ↓pn_SW, ↓px_ma, ↓reduceIte, Nat.reduceEqDiff, Nat.reduceAdd, Nat.reduceSub, ↓Option.toList_some, ↓Option.toList_none, ↓List.cons_append, ↓List.nil_append, ↓kI_s, ↓kJ_s, ↓kN_s, ↓kO_s, ↓kZ_s, ↓kE_s, ↓an_rfl, ↓bt1 n00, ↓bt2 n00, ↓bf1 n10, ↓bf2 n10, ↓an_sz0, ↓an_sz1, ↓an_sz2, ↓an_sz3, ↓an_sz4, ↓an_ri, ↓an_rb0, ↓an_rb1, ↓an_b0, ↓an_b1, true_and, ↓ai_0s, ↓al_0s, ↓av_0s, ↓aq_0s, ↓ai_1s, ↓al_1s, ↓av_1s, ↓aq_1s, ↓ai_2s, ↓al_2s, ↓av_2s, ↓aq_2s, ↓ai_3s, ↓al_3s, ↓av_3s, ↓aq_3s, ↓ai_4s, ↓al_4s, ↓av_4s, ↓aq_4s, ↓ai_5s, ↓al_5s, ↓av_5s, ↓aq_5s, ↓ai_6s, ↓al_6s, ↓av_6s, ↓aq_6s, ↓ai_7s, ↓al_7s, ↓av_7s, ↓aq_7s, ↓an_l3, ↓bk_24, ↓Sg_11, ↓kp_24_139, ↓kp_24_146, ↓an_t hc0, ↓an_rv hc0, ↓oW_e hc1, ↓bt1 hc2, ↓bt2 hc2, ↓oW_e hc3, ↓bt1 hc4, ↓bt2 hc4, ↓oW_e hc5, ↓bf1 hc6, ↓bf2 hc6]
        exact hs
    · replace hs := bW_f hs hc4
      simp only [↓hG, ↓hJf, ↓px_vc, ↓px_ex, ↓px_jp, ↓px_gi, ↓px_gl, ↓px_gr, ↓px_s1, ↓px_s2, ↓px_nl, ↓px_i1, ↓px_l1, ↓r1_s, ↓px_q1, ↓px_i2, ↓px_l2, ↓px_il, ↓px_d0, ↓px_d1, ↓px_d2, ↓px_pop, ↓px_sp, ↓px_rd, ↓px_rf, ↓pn_xf, ↓px_pt, ↓px_sw, ↓pn_SW, ↓px_ma, ↓reduceIte, Nat.reduceEqDiff, Nat.reduceAdd, Nat.reduceSub, ↓Option.toList_some, ↓Option.toList_none, ↓List.cons_append, ↓List.nil_append, ↓kI_s, ↓kJ_s, ↓kN_s, ↓kO_s, ↓kZ_s, ↓kE_s, ↓an_rfl, ↓bt1 n00, ↓bt2 n00, ↓bf1 n10, ↓bf2 n10, ↓an_sz0, ↓an_sz1, ↓an_sz2, ↓an_sz3, ↓an_sz4, ↓an_ri, ↓an_rb0, ↓an_rb1, ↓an_b0, ↓an_b1, true_and, ↓ai_0s, ↓al_0s, ↓av_0s, ↓aq_0s, ↓ai_1s, ↓al_1s, ↓av_1s, ↓aq_1s, ↓ai_2s, ↓al_2s, ↓av_2s, ↓aq_2s, ↓ai_3s, ↓al_3s, ↓av_3s, ↓aq_3s, ↓ai_4s, ↓al_4s, ↓av_4s, ↓aq_4s, ↓ai_5s, ↓al_5s, ↓av_5s, ↓aq_5s, ↓ai_6s, ↓al_6s, ↓av_6s, ↓aq_6s, ↓ai_7s, ↓al_7s, ↓av_7s, ↓aq_7s, ↓an_l3, ↓bk_24, ↓Sg_11, ↓kp_24_139, ↓kp_24_146, ↓an_t hc0, ↓an_rv hc0, ↓oW_e hc1, ↓bt1 hc2, ↓bt2 hc2, ↓oW_e hc3, ↓bf1 hc4, ↓bf2 hc4]
      exact hs
  · replace hs := bW_f hs hc2
    simp only [↓hG, ↓hJf, ↓px_vc, ↓px_ex, ↓px_jp, ↓px_gi, ↓px_gl, ↓px_gr, ↓px_s1, ↓px_s2, ↓px_nl, ↓px_i1, ↓px_l1, ↓r1_s, ↓px_q1, ↓px_i2, ↓px_l2, ↓px_il, ↓px_d0, ↓px_d1, ↓px_d2, ↓px_pop, ↓px_sp, ↓px_rd, ↓px_rf, ↓pn_xf, ↓px_pt, ↓px_sw, ↓pn_SW, ↓px_ma, ↓reduceIte, Nat.reduceEqDiff, Nat.reduceAdd, Nat.reduceSub, ↓Option.toList_some, ↓Option.toList_none, ↓List.cons_append, ↓List.nil_append, ↓kI_s, ↓kJ_s, ↓kN_s, ↓kO_s, ↓kZ_s, ↓kE_s, ↓an_rfl, ↓bt1 n00, ↓bt2 n00, ↓bf1 n10, ↓bf2 n10, ↓an_sz0, ↓an_sz1, ↓an_sz2, ↓an_sz3, ↓an_sz4, ↓an_ri, ↓an_rb0, ↓an_rb1, ↓an_b0, ↓an_b1, true_and, ↓ai_0s, ↓al_0s, ↓av_0s, ↓aq_0s, ↓ai_1s, ↓al_1s, ↓av_1s, ↓aq_1s, ↓ai_2s, ↓al_2s, ↓av_2s, ↓aq_2s, ↓ai_3s, ↓al_3s, ↓av_3s, ↓aq_3s, ↓ai_4s, ↓al_4s, ↓av_4s, ↓aq_4s, ↓ai_5s, ↓al_5s, ↓av_5s, ↓aq_5s, ↓ai_6s, ↓al_6s, ↓av_6s, ↓aq_6s, ↓ai_7s, ↓al_7s, ↓av_7s, ↓aq_7s, ↓an_l3, ↓bk_24, ↓Sg_11, ↓kp_24_139, ↓kp_24_146, ↓an_t hc0, ↓an_rv hc0, ↓oW_e hc1, ↓bf1 hc2, ↓bf2 hc2]
    exact hs
set_option maxHeartbeats 4000000 in
set_option maxRecDepth 100000 in
theorem rl_24_78 {C : px_C} (hn : px_nd (px_tb C)) {h : Nat} (hh : 69 ≤ h) (hC : px_ok C pn_i24 h) {g24 : px_M → Nat → Int32 → Option (px_M)} {g25 : px_M → Nat → Int32 → Option (px_M)} {g26 : px_M → Nat → Int32 → Option (px_M)} (hg24 : px_Ok (px_tb C) pn_i24 (h - 1) (Sg_24 g24)) (hg25 : px_Ok (px_tb C) pn_i25 (h - 1) (Sg_25 g25)) (hg26 : px_Ok (px_tb C) pn_i26 (h - 1) (Sg_26 g26)) {k : Option px_V → px_M → Prop} {x0 : Nat} {x1 : Int32} {σ : px_M} (hs : oW (f_24_78 (px_tb C) g24 g25 g26 σ x0 x1) (fun τ => k none τ)) : ∀ (z2 : Option px_V), px_W C k 78 [some (.inr (.inr (some x0))), some (.inl x1), z2] [] σ := by
  intro z2
  refine px_runH (h - 1) ck_24 [(11, Sg_11 (f_11 (px_tb C)))] [(112, kp_24_112 (fun y0 y1 y2 τ => oW (f_24_112 (px_tb C) g24 g25 g26 τ y0 y1 y2) (fun τ => k none τ)))] 80 3 none rfl rfl hC (px_sp1 (mf_11 hn (by omega)) px_nosp) (by omega) (px_cut1 (kq_24_112 (fun y0 y1 y2 τ hq => by exact rl_24_112 hn (by omega) hC hg24 hg25 hg26  hq)) px_nocut) (fun G Jf hG hJf => ?_)
  unfold f_24_78 at hs
  obtain ⟨hc0, hs⟩ := oW_gx hs
  obtain ⟨r1, hc1, hs⟩ := oW_bx hs
  by_cases hc2 : r1 = nI 0
  · replace hs := oW_t hs hc2
    obtain ⟨r2, hc3, hs⟩ := oW_bx hs
    by_cases hc4 : r2 = nI 0
    · replace hs := oW_t hs hc4
      simp only [↓hG, ↓hJf, ↓px_vc, ↓px_ex, ↓px_jp, ↓px_gi, ↓px_gl, ↓px_gr, ↓px_s1, ↓px_s2, ↓px_nl, ↓px_i1, ↓px_l1, ↓r1_s, ↓px_q1, ↓px_i2, ↓px_l2, ↓px_il, ↓px_d0, ↓px_d1, ↓px_d2, ↓px_pop, ↓px_sp, ↓px_rd, ↓px_rf, ↓pn_xf, ↓px_pt, ↓px_sw, ↓pn_SW, ↓px_ma, ↓reduceIte, Nat.reduceEqDiff, Nat.reduceAdd, Nat.reduceSub, ↓Option.toList_some, ↓Option.toList_none, ↓List.cons_append, ↓List.nil_append, ↓kI_s, ↓kJ_s, ↓kN_s, ↓kO_s, ↓kZ_s, ↓kE_s, ↓an_rfl, ↓bt1 n00, ↓bt2 n00, ↓bf1 n10, ↓bf2 n10, ↓an_sz0, ↓an_sz1, ↓an_sz2, ↓an_sz3, ↓an_sz4, ↓an_ri, ↓an_rb0, ↓an_rb1, ↓an_b0, ↓an_b1, true_and, ↓ai_0s, ↓al_0s, ↓av_0s, ↓aq_0s, ↓ai_1s, ↓al_1s, ↓av_1s, ↓aq_1s, ↓ai_2s, ↓al_2s, ↓av_2s, ↓aq_2s, ↓ai_3s, ↓al_3s, ↓av_3s, ↓aq_3s, ↓ai_4s, ↓al_4s, ↓av_4s, ↓aq_4s, ↓ai_5s, ↓al_5s, ↓av_5s, ↓aq_5s, ↓ai_6s, ↓al_6s, ↓av_6s, ↓aq_6s, ↓ai_7s, ↓al_7s, ↓av_7s, ↓aq_7s, ↓an_l3, ↓bk_24, ↓Sg_11, ↓kp_24_112, ↓an_t hc0, ↓an_rv hc0, ↓oW_e hc1, ↓bt1 hc2, ↓bt2 hc2, ↓oW_e hc3, ↓bt1 hc4, ↓bt2 hc4]
      exact hs
    · replace hs := oW_f hs hc4
      simp only [↓hG, ↓hJf, ↓px_vc, ↓px_ex, ↓px_jp, ↓px_gi, ↓px_gl, ↓px_gr, ↓px_s1, ↓px_s2, ↓px_nl, ↓px_i1, ↓px_l1, ↓r1_s, ↓px_q1, ↓px_i2, ↓px_l2, ↓px_il, ↓px_d0, ↓px_d1, ↓px_d2, ↓px_pop, ↓px_sp, ↓px_rd, ↓px_rf, ↓pn_xf, ↓px_pt, ↓px_sw, ↓pn_SW, ↓px_ma, ↓reduceIte, Nat.reduceEqDiff, Nat.reduceAdd, Nat.reduceSub, ↓Option.toList_some, ↓Option.toList_none, ↓List.cons_append, ↓List.nil_append, ↓kI_s, ↓kJ_s, ↓kN_s, ↓kO_s, ↓kZ_s, ↓kE_s, ↓an_rfl, ↓bt1 n00, ↓bt2 n00, ↓bf1 n10, ↓bf2 n10, ↓an_sz0, ↓an_sz1, ↓an_sz2, ↓an_sz3, ↓an_sz4, ↓an_ri, ↓an_rb0, ↓an_rb1, ↓an_b0, ↓an_b1, true_and, ↓ai_0s, ↓al_0s, ↓av_0s, ↓aq_0s, ↓ai_1s, ↓al_1s, ↓av_1s, ↓aq_1s, ↓ai_2s, ↓al_2s, ↓av_2s, ↓aq_2s, ↓ai_3s, ↓al_3s, ↓av_3s, ↓aq_3s, ↓ai_4s, ↓al_4s, ↓av_4s, ↓aq_4s, ↓ai_5s, ↓al_5s, ↓av_5s, ↓aq_5s, ↓ai_6s, ↓al_6s, ↓av_6s, ↓aq_6s, ↓ai_7s, ↓al_7s, ↓av_7s, ↓aq_7s, ↓an_l3, ↓bk_24, ↓Sg_11, ↓kp_24_112, ↓an_t hc0, ↓an_rv hc0, ↓oW_e hc1, ↓bt1 hc2, ↓bt2 hc2, ↓oW_e hc3, ↓bf1 hc4, ↓bf2 hc4]
      exact hs
  · replace hs := oW_f hs hc2
    simp only [↓hG, ↓hJf, ↓px_vc, ↓px_ex, ↓px_jp, ↓px_gi, ↓px_gl, ↓px_gr, ↓px_s1, ↓px_s2, ↓px_nl, ↓px_i1, ↓px_l1, ↓r1_s, ↓px_q1, ↓px_i2, ↓px_l2, ↓px_il, ↓px_d0, ↓px_d1, ↓px_d2, ↓px_pop, ↓px_sp, ↓px_rd, ↓px_rf, ↓pn_xf, ↓px_pt, ↓px_sw, ↓pn_SW, ↓px_ma, ↓reduceIte, Nat.reduceEqDiff, Nat.reduceAdd, Nat.reduceSub, ↓Option.toList_some, ↓Option.toList_none, ↓List.cons_append, ↓List.nil_append, ↓kI_s, ↓kJ_s, ↓kN_s, ↓kO_s, ↓kZ_s, ↓kE_s, ↓an_rfl, ↓bt1 n00, ↓bt2 n00, ↓bf1 n10, ↓bf2 n10, ↓an_sz0, ↓an_sz1, ↓an_sz2, ↓an_sz3, ↓an_sz4, ↓an_ri, ↓an_rb0, ↓an_rb1, ↓an_b0, ↓an_b1, true_and, ↓ai_0s, ↓al_0s, ↓av_0s, ↓aq_0s, ↓ai_1s, ↓al_1s, ↓av_1s, ↓aq_1s, ↓ai_2s, ↓al_2s, ↓av_2s, ↓aq_2s, ↓ai_3s, ↓al_3s, ↓av_3s, ↓aq_3s, ↓ai_4s, ↓al_4s, ↓av_4s, ↓aq_4s, ↓ai_5s, ↓al_5s, ↓av_5s, ↓aq_5s, ↓ai_6s, ↓al_6s, ↓av_6s, ↓aq_6s, ↓ai_7s, ↓al_7s, ↓av_7s, ↓aq_7s, ↓an_l3, ↓bk_24, ↓Sg_11, ↓kp_24_112, ↓an_t hc0, ↓an_rv hc0, ↓oW_e hc1, ↓bf1 hc2, ↓bf2 hc2]
    exact hs
set_option maxHeartbeats 4000000 in
set_option maxRecDepth 100000 in
theorem rl_24_51 {C : px_C} (hn : px_nd (px_tb C)) {h : Nat} (hh : 69 ≤ h) (hC : px_ok C pn_i24 h) {g24 : px_M → Nat → Int32 → Option (px_M)} {g25 : px_M → Nat → Int32 → Option (px_M)} {g26 : px_M → Nat → Int32 → Option (px_M)} (hg24 : px_Ok (px_tb C) pn_i24 (h - 1) (Sg_24 g24)) (hg25 : px_Ok (px_tb C) pn_i25 (h - 1) (Sg_25 g25)) (hg26 : px_Ok (px_tb C) pn_i26 (h - 1) (Sg_26 g26)) {k : Option px_V → px_M → Prop} {x0 : Nat} {x1 : Int32} {σ : px_M} (hs : oW (f_24_51 (px_tb C) g24 g25 g26 σ x0 x1) (fun τ => k none τ)) : ∀ (z2 : Option px_V), px_W C k 51 [some (.inr (.inr (some x0))), some (.inl x1), z2] [] σ := by
  intro z2
  refine px_runH (h - 1) ck_24 [(10, Sg_10 (f_10 (px_tb C))), (12, Sg_12 (f_12 (px_tb C))), (26, Sg_26 g26)] [] 80 3 none rfl rfl hC (px_sp1 (mf_10 hn (by omega)) (px_sp1 (mf_12 hn (by omega)) (px_sp1 (hg26) px_nosp))) (by omega) px_nocut (fun G Jf hG hJf => ?_)
  unfold f_24_51 at hs
  obtain ⟨hc0, hs⟩ := oW_gx hs
  obtain ⟨q1, hc1, hs⟩ := oW_bx hs
  obtain ⟨q2, hc2, hs⟩ := oW_bx hs
  by_cases hc3 : q2.1 = nI 0
  · replace hs := bW_t hs hc3
    obtain ⟨q3, hc4, hs⟩ := oW_bx hs
    simp only [↓hG, ↓hJf, ↓px_vc, ↓px_ex, ↓px_jp, ↓px_gi, ↓px_gl, ↓px_gr, ↓px_s1, ↓px_s2, ↓px_nl, ↓px_i1, ↓px_l1, ↓r1_s, ↓px_q1, ↓px_i2, ↓px_l2, ↓px_il, ↓px_d0, ↓px_d1, ↓px_d2, ↓px_pop, ↓px_sp, ↓px_rd, ↓px_rf, ↓pn_xf, ↓px_pt, ↓px_sw, ↓pn_SW, ↓px_ma, ↓reduceIte, Nat.reduceEqDiff, Nat.reduceAdd, Nat.reduceSub, ↓Option.toList_some, ↓Option.toList_none, ↓List.cons_append, ↓List.nil_append, ↓kI_s, ↓kJ_s, ↓kN_s, ↓kO_s, ↓kZ_s, ↓kE_s, ↓an_rfl, ↓bt1 n00, ↓bt2 n00, ↓bf1 n10, ↓bf2 n10, ↓an_sz0, ↓an_sz1, ↓an_sz2, ↓an_sz3, ↓an_sz4, ↓an_ri, ↓an_rb0, ↓an_rb1, ↓an_b0, ↓an_b1, true_and, ↓ai_0s, ↓al_0s, ↓av_0s, ↓aq_0s, ↓ai_1s, ↓al_1s, ↓av_1s, ↓aq_1s, ↓ai_2s, ↓al_2s, ↓av_2s, ↓aq_2s, ↓ai_3s, ↓al_3s, ↓av_3s, ↓aq_3s, ↓ai_4s, ↓al_4s, ↓av_4s, ↓aq_4s, ↓ai_5s, ↓al_5s, ↓av_5s, ↓aq_5s, ↓ai_6s, ↓al_6s, ↓av_6s, ↓aq_6s, ↓ai_7s, ↓al_7s, ↓av_7s, ↓aq_7s, ↓an_l3, ↓bk_24, ↓Sg_10, ↓Sg_12, ↓Sg_26, ↓an_t hc0, ↓an_rv hc0, ↓oW_e hc1, ↓oW_e hc2, ↓bt1 hc3, ↓bt2 hc3, ↓oW_e hc4]
    rw [oW_some] at hs
    exact hs
  · replace hs := bW_f hs hc3
    simp only [↓hG, ↓hJf, ↓px_vc, ↓px_ex, ↓px_jp, ↓px_gi, ↓px_gl, ↓px_gr, ↓px_s1, ↓px_s2, ↓px_nl, ↓px_i1, ↓px_l1, ↓r1_s, ↓px_q1, ↓px_i2, ↓px_l2, ↓px_il, ↓px_d0, ↓px_d1, ↓px_d2, ↓px_pop, ↓px_sp, ↓px_rd, ↓px_rf, ↓pn_xf, ↓px_pt, ↓px_sw, ↓pn_SW, ↓px_ma, ↓reduceIte, Nat.reduceEqDiff, Nat.reduceAdd, Nat.reduceSub, ↓Option.toList_some, ↓Option.toList_none, ↓List.cons_append, ↓List.nil_append, ↓kI_s, ↓kJ_s, ↓kN_s, ↓kO_s, ↓kZ_s, ↓kE_s, ↓an_rfl, ↓bt1 n00, ↓bt2 n00, ↓bf1 n10, ↓bf2 n10, ↓an_sz0, ↓an_sz1, ↓an_sz2, ↓an_sz3, ↓an_sz4, ↓an_ri, ↓an_rb0, ↓an_rb1, ↓an_b0, ↓an_b1, true_and, ↓ai_0s, ↓al_0s, ↓av_0s, ↓aq_0s, ↓ai_1s, ↓al_1s, ↓av_1s, ↓aq_1s, ↓ai_2s, ↓al_2s, ↓av_2s, ↓aq_2s, ↓ai_3s, ↓al_3s, ↓av_3s, ↓aq_3s, ↓ai_4s, ↓al_4s, ↓av_4s, ↓aq_4s, ↓ai_5s, ↓al_5s, ↓av_5s, ↓aq_5s, ↓ai_6s, ↓al_6s, ↓av_6s, ↓aq_6s, ↓ai_7s, ↓al_7s, ↓av_7s, ↓aq_7s, ↓an_l3, ↓bk_24, ↓Sg_10, ↓Sg_12, ↓Sg_26, ↓an_t hc0, ↓an_rv hc0, ↓oW_e hc1, ↓oW_e hc2, ↓bf1 hc3, ↓bf2 hc3]
    rw [oW_some] at hs
    exact hs
set_option maxHeartbeats 4000000 in
set_option maxRecDepth 100000 in
theorem rl_24_25 {C : px_C} (hn : px_nd (px_tb C)) {h : Nat} (hh : 69 ≤ h) (hC : px_ok C pn_i24 h) {g24 : px_M → Nat → Int32 → Option (px_M)} {g25 : px_M → Nat → Int32 → Option (px_M)} {g26 : px_M → Nat → Int32 → Option (px_M)} (hg24 : px_Ok (px_tb C) pn_i24 (h - 1) (Sg_24 g24)) (hg25 : px_Ok (px_tb C) pn_i25 (h - 1) (Sg_25 g25)) (hg26 : px_Ok (px_tb C) pn_i26 (h - 1) (Sg_26 g26)) {k : Option px_V → px_M → Prop} {x0 : Nat} {σ : px_M} (hs : oW (f_24_25 (px_tb C) g24 g25 g26 σ x0) (fun τ => k none τ)) : ∀ (z1 : Option px_V) (z2 : Option px_V), px_W C k 25 [some (.inr (.inr (some x0))), z1, z2] [] σ := by
  intro z1 z2
  refine px_runH (h - 1) ck_24 [(19, Sg_19 (f_19 (px_tb C)))] [] 80 3 none rfl rfl hC (px_sp1 (mf_19 hn (by omega)) px_nosp) (by omega) px_nocut (fun G Jf hG hJf => ?_)
  unfold f_24_25 at hs
  obtain ⟨hc0, hs⟩ := oW_gx hs
  obtain ⟨q1, hc1, hs⟩ := oW_bx hs
  simp only [↓hG, ↓hJf, ↓px_vc, ↓px_ex, ↓px_jp, ↓px_gi, ↓px_gl, ↓px_gr, ↓px_s1, ↓px_s2, ↓px_nl, ↓px_i1, ↓px_l1, ↓r1_s, ↓px_q1, ↓px_i2, ↓px_l2, ↓px_il, ↓px_d0, ↓px_d1, ↓px_d2, ↓px_pop, ↓px_sp, ↓px_rd, ↓px_rf, ↓pn_xf, ↓px_pt, ↓px_sw, ↓pn_SW, ↓px_ma, ↓reduceIte, Nat.reduceEqDiff, Nat.reduceAdd, Nat.reduceSub, ↓Option.toList_some, ↓Option.toList_none, ↓List.cons_append, ↓List.nil_append, ↓kI_s, ↓kJ_s, ↓kN_s, ↓kO_s, ↓kZ_s, ↓kE_s, ↓an_rfl, ↓bt1 n00, ↓bt2 n00, ↓bf1 n10, ↓bf2 n10, ↓an_sz0, ↓an_sz1, ↓an_sz2, ↓an_sz3, ↓an_sz4, ↓an_ri, ↓an_rb0, ↓an_rb1, ↓an_b0, ↓an_b1, true_and, ↓ai_0s, ↓al_0s, ↓av_0s, ↓aq_0s, ↓ai_1s, ↓al_1s, ↓av_1s, ↓aq_1s, ↓ai_2s, ↓al_2s, ↓av_2s, ↓aq_2s, ↓ai_3s, ↓al_3s, ↓av_3s, ↓aq_3s, ↓ai_4s, ↓al_4s, ↓av_4s, ↓aq_4s, ↓ai_5s, ↓al_5s, ↓av_5s, ↓aq_5s, ↓ai_6s, ↓al_6s, ↓av_6s, ↓aq_6s, ↓ai_7s, ↓al_7s, ↓av_7s, ↓aq_7s, ↓an_l3, ↓bk_24, ↓Sg_19, ↓an_t hc0, ↓an_rv hc0, ↓oW_e hc1]
  rw [oW_some] at hs
  exact hs
set_option maxHeartbeats 4000000 in
set_option maxRecDepth 100000 in
theorem mF_24 {tab : px_T} (hn : px_nd tab) {h : Nat} (hh : 69 ≤ h) {g24 : px_M → Nat → Int32 → Option (px_M)} {g25 : px_M → Nat → Int32 → Option (px_M)} {g26 : px_M → Nat → Int32 → Option (px_M)} (hg24 : px_Ok tab pn_i24 (h - 1) (Sg_24 g24)) (hg25 : px_Ok tab pn_i25 (h - 1) (Sg_25 g25)) (hg26 : px_Ok tab pn_i26 (h - 1) (Sg_26 g26)) : px_Ok tab pn_i24 h (Sg_24 (F_24 tab g24 g25 g26)) := by
  refine px_mth hn (by decide +kernel) (fun av σ k hS => ?_) (fun C hT hC av σ k hS => ?_)
  · obtain ⟨x0, av0, e0, h0⟩ := av_0p hS
    obtain ⟨x1, av1, e1, h1⟩ := ai_1p h0
    obtain ⟨ez, hs⟩ := h1
    subst ez
    subst e1
    subst e0
    exact Nat.le_of_ble_eq_true rfl
  · obtain ⟨x0, av0, e0, h0⟩ := av_0p hS
    obtain ⟨x1, av1, e1, h1⟩ := ai_1p h0
    obtain ⟨ez, hs⟩ := h1
    subst ez
    subst e1
    subst e0
    subst hT
    show px_W C k 0 [some (.inr (.inr (some x0))), some (.inl x1), none] [] σ
    refine px_runH (h - 1) ck_24 [(11, Sg_11 (f_11 (px_tb C))), (20, Sg_20 (f_20 (px_tb C))), (23, Sg_23 (f_23 (px_tb C) 60)), (24, Sg_24 g24)] [(25, kp_24_25 (fun y0 τ => oW (f_24_25 (px_tb C) g24 g25 g26 τ y0) (fun τ => k none τ))), (51, kp_24_51 (fun y0 y1 τ => oW (f_24_51 (px_tb C) g24 g25 g26 τ y0 y1) (fun τ => k none τ))), (78, kp_24_78 (fun y0 y1 τ => oW (f_24_78 (px_tb C) g24 g25 g26 τ y0 y1) (fun τ => k none τ)))] 80 3 none rfl rfl hC (px_sp1 (mf_11 hn (by omega)) (px_sp1 (mf_20 hn (by omega)) (px_sp1 (mf_23 hn (by omega)) (px_sp1 (hg24) px_nosp)))) (by omega) (px_cut1 (kq_24_25 (fun y0 τ hq => by exact rl_24_25 hn (by omega) hC hg24 hg25 hg26  hq)) (px_cut1 (kq_24_51 (fun y0 y1 τ hq => by exact rl_24_51 hn (by omega) hC hg24 hg25 hg26  hq)) (px_cut1 (kq_24_78 (fun y0 y1 τ hq => by exact rl_24_78 hn (by omega) hC hg24 hg25 hg26  hq)) px_nocut))) (fun G Jf hG hJf => ?_)
    unfold F_24 at hs
    obtain ⟨hc0, hs⟩ := oW_gx hs
    obtain ⟨r1, hc1, hs⟩ := oW_bx hs
    by_cases hc2 : r1 = nI 0
    · replace hs := oW_t hs hc2
      obtain ⟨r2, hc3, hs⟩ := oW_bx hs
      by_cases hc4 : r2 = nI 0
      · replace hs := oW_t hs hc4
        obtain ⟨q3, hc5, hs⟩ := oW_bx hs
        simp only [↓hG, ↓hJf, ↓px_vc, ↓px_ex, ↓px_jp, ↓px_gi, ↓px_gl, ↓px_gr, ↓px_s1, ↓px_s2, ↓px_nl, ↓px_i1, ↓px_l1, ↓r1_s, ↓px_q1, ↓px_i2, ↓px_l2, ↓px_il, ↓px_d0, ↓px_d1, ↓px_d2, ↓px_pop, ↓px_sp, ↓px_rd, ↓px_rf, ↓pn_xf, ↓px_pt, ↓px_sw, ↓pn_SW, ↓px_ma, ↓reduceIte, Nat.reduceEqDiff, Nat.reduceAdd, Nat.reduceSub, ↓Option.toList_some, ↓Option.toList_none, ↓List.cons_append, ↓List.nil_append, ↓kI_s, ↓kJ_s, ↓kN_s, ↓kO_s, ↓kZ_s, ↓kE_s, ↓an_rfl, ↓bt1 n00, ↓bt2 n00, ↓bf1 n10, ↓bf2 n10, ↓an_sz0, ↓an_sz1, ↓an_sz2, ↓an_sz3, ↓an_sz4, ↓an_ri, ↓an_rb0, ↓an_rb1, ↓an_b0, ↓an_b1, true_and, ↓ai_0s, ↓al_0s, ↓av_0s, ↓aq_0s, ↓ai_1s, ↓al_1s, ↓av_1s, ↓aq_1s, ↓ai_2s, ↓al_2s, ↓av_2s, ↓aq_2s, ↓ai_3s, ↓al_3s, ↓av_3s, ↓aq_3s, ↓ai_4s, ↓al_4s, ↓av_4s, ↓aq_4s, ↓ai_5s, ↓al_5s, ↓av_5s, ↓aq_5s, ↓ai_6s, ↓al_6s, ↓av_6s, ↓aq_6s, ↓ai_7s, ↓al_7s, ↓av_7s, ↓aq_7s, ↓an_l3, ↓bk_24, ↓Sg_11, ↓Sg_20, ↓Sg_23, ↓Sg_24, ↓kp_24_25, ↓kp_24_51, ↓kp_24_78, ↓an_t hc0, ↓an_rv hc0, ↓oW_e hc1, ↓bt1 hc2, ↓bt2 hc2, ↓oW_e hc3, ↓bt1 hc4, ↓bt2 hc4, ↓oW_e hc5]
        exact hs
      · replace hs := oW_f hs hc4
        obtain ⟨q4, hc5, hs⟩ := oW_bx hs
        by_cases hc6 : q4.1 = nI 0
        · replace hs := bW_t hs hc6
          simp only [↓hG, ↓hJf, ↓px_vc, ↓px_ex, ↓px_jp, ↓px_gi, ↓px_gl, ↓px_gr, ↓px_s1, ↓px_s2, ↓px_nl, ↓px_i1, ↓px_l1, ↓r1_s, ↓px_q1, ↓px_i2, ↓px_l2, ↓px_il, ↓px_d0, ↓px_d1, ↓px_d2, ↓px_pop, ↓px_sp, ↓px_rd, ↓px_rf, ↓pn_xf, ↓px_pt, ↓px_sw, ↓pn_SW, ↓px_ma, ↓reduceIte, Nat.reduceEqDiff, Nat.reduceAdd, Nat.reduceSub, ↓Option.toList_some, ↓Option.toList_none, ↓List.cons_append, ↓List.nil_append, ↓kI_s, ↓kJ_s, ↓kN_s, ↓kO_s, ↓kZ_s, ↓kE_s, ↓an_rfl, ↓bt1 n00, ↓bt2 n00, ↓bf1 n10, ↓bf2 n10, ↓an_sz0, ↓an_sz1, ↓an_sz2, ↓an_sz3, ↓an_sz4, ↓an_ri, ↓an_rb0, ↓an_rb1, ↓an_b0, ↓an_b1, true_and, ↓ai_0s, ↓al_0s, ↓av_0s, ↓aq_0s, ↓ai_1s, ↓al_1s, ↓av_1s, ↓aq_1s, ↓ai_2s, ↓al_2s, ↓av_2s, ↓aq_2s, ↓ai_3s, ↓al_3s, ↓av_3s, ↓aq_3s, ↓ai_4s, ↓al_4s, ↓av_4s, ↓aq_4s, ↓ai_5s, ↓al_5s, ↓av_5s, ↓aq_5s, ↓ai_6s, ↓al_6s, ↓av_6s, ↓aq_6s, ↓ai_7s, ↓al_7s, ↓av_7s, ↓aq_7s, ↓an_l3, ↓bk_24, ↓Sg_11, ↓Sg_20, ↓Sg_23, ↓Sg_24, ↓kp_24_25, ↓kp_24_51, ↓kp_24_78, ↓an_t hc0, ↓an_rv hc0, ↓oW_e hc1, ↓bt1 hc2, ↓bt2 hc2, ↓oW_e hc3, ↓bf1 hc4, ↓bf2 hc4, ↓oW_e hc5, ↓bt1 hc6, ↓bt2 hc6]
          rw [oW_some] at hs
          exact hs
        · replace hs := bW_f hs hc6
          simp only [↓hG, ↓hJf, ↓px_vc, ↓px_ex, ↓px_jp, ↓px_gi, ↓px_gl, ↓px_gr, ↓px_s1, ↓px_s2, ↓px_nl, ↓px_i1, ↓px_l1, ↓r1_s, ↓px_q1, ↓px_i2, ↓px_l2, ↓px_il, ↓px_d0, ↓px_d1, ↓px_d2, ↓px_pop, ↓px_sp, ↓px_rd, ↓px_rf, ↓pn_xf, ↓px_pt, ↓px_sw, ↓pn_SW, ↓px_ma, ↓reduceIte, Nat.reduceEqDiff, Nat.reduceAdd, Nat.reduceSub, ↓Option.toList_some, ↓Option.toList_none, ↓List.cons_append, ↓List.nil_append, ↓kI_s, ↓kJ_s, ↓kN_s, ↓kO_s, ↓kZ_s, ↓kE_s, ↓an_rfl, ↓bt1 n00, ↓bt2 n00, ↓bf1 n10, ↓bf2 n10, ↓an_sz0, ↓an_sz1, ↓an_sz2, ↓an_sz3, ↓an_sz4, ↓an_ri, ↓an_rb0, ↓an_rb1, ↓an_b0, ↓an_b1, true_and, ↓ai_0s, ↓al_0s, ↓av_0s, ↓aq_0s, ↓ai_1s, ↓al_1s, ↓av_1s, ↓aq_1s, ↓ai_2s, ↓al_2s, ↓av_2s, ↓aq_2s, ↓ai_3s, ↓al_3s, ↓av_3s, ↓aq_3s, ↓ai_4s, ↓al_4s, ↓av_4s, ↓aq_4s, ↓ai_5s, ↓al_5s, ↓av_5s, ↓aq_5s, ↓ai_6s, ↓al_6s, ↓av_6s, ↓aq_6s, ↓ai_7s, ↓al_7s, ↓av_7s, ↓aq_7s, ↓an_l3, ↓bk_24, ↓Sg_11, ↓Sg_20, ↓Sg_23, ↓Sg_24, ↓kp_24_25, ↓kp_24_51, ↓kp_24_78, ↓an_t hc0, ↓an_rv hc0, ↓oW_e hc1, ↓bt1 hc2, ↓bt2 hc2, ↓oW_e hc3, ↓bf1 hc4, ↓bf2 hc4, ↓oW_e hc5, ↓bf1 hc6, ↓bf2 hc6]
          exact hs
    · replace hs := oW_f hs hc2
      obtain ⟨q5, hc3, hs⟩ := oW_bx hs
      by_cases hc4 : q5.1 = nI 0
      · replace hs := bW_t hs hc4
        simp only [↓hG, ↓hJf, ↓px_vc, ↓px_ex, ↓px_jp, ↓px_gi, ↓px_gl, ↓px_gr, ↓px_s1, ↓px_s2, ↓px_nl, ↓px_i1, ↓px_l1, ↓r1_s, ↓px_q1, ↓px_i2, ↓px_l2, ↓px_il, ↓px_d0, ↓px_d1, ↓px_d2, ↓px_pop, ↓px_sp, ↓px_rd, ↓px_rf, ↓pn_xf, ↓px_pt, ↓px_sw, ↓pn_SW, ↓px_ma, ↓reduceIte, Nat.reduceEqDiff, Nat.reduceAdd, Nat.reduceSub, ↓Option.toList_some, ↓Option.toList_none, ↓List.cons_append, ↓List.nil_append, ↓kI_s, ↓kJ_s, ↓kN_s, ↓kO_s, ↓kZ_s, ↓kE_s, ↓an_rfl, ↓bt1 n00, ↓bt2 n00, ↓bf1 n10, ↓bf2 n10, ↓an_sz0, ↓an_sz1, ↓an_sz2, ↓an_sz3, ↓an_sz4, ↓an_ri, ↓an_rb0, ↓an_rb1, ↓an_b0, ↓an_b1, true_and, ↓ai_0s, ↓al_0s, ↓av_0s, ↓aq_0s, ↓ai_1s, ↓al_1s, ↓av_1s, ↓aq_1s, ↓ai_2s, ↓al_2s, ↓av_2s, ↓aq_2s, ↓ai_3s, ↓al_3s, ↓av_3s, ↓aq_3s, ↓ai_4s, ↓al_4s, ↓av_4s, ↓aq_4s, ↓ai_5s, ↓al_5s, ↓av_5s, ↓aq_5s, ↓ai_6s, ↓al_6s, ↓av_6s, ↓aq_6s, ↓ai_7s, ↓al_7s, ↓av_7s, ↓aq_7s, ↓an_l3, ↓bk_24, ↓Sg_11, ↓Sg_20, ↓Sg_23, ↓Sg_24, ↓kp_24_25, ↓kp_24_51, ↓kp_24_78, ↓an_t hc0, ↓an_rv hc0, ↓oW_e hc1, ↓bf1 hc2, ↓bf2 hc2, ↓oW_e hc3, ↓bt1 hc4, ↓bt2 hc4]
        rw [oW_some] at hs
        exact hs
      · replace hs := bW_f hs hc4
        obtain ⟨q6, hc5, hs⟩ := oW_bx hs
        simp only [↓hG, ↓hJf, ↓px_vc, ↓px_ex, ↓px_jp, ↓px_gi, ↓px_gl, ↓px_gr, ↓px_s1, ↓px_s2, ↓px_nl, ↓px_i1, ↓px_l1, ↓r1_s, ↓px_q1, ↓px_i2, ↓px_l2, ↓px_il, ↓px_d0, ↓px_d1, ↓px_d2, ↓px_pop, ↓px_sp, ↓px_rd, ↓px_rf, ↓pn_xf, ↓px_pt, ↓px_sw, ↓pn_SW, ↓px_ma, ↓reduceIte, Nat.reduceEqDiff, Nat.reduceAdd, Nat.reduceSub, ↓Option.toList_some, ↓Option.toList_none, ↓List.cons_append, ↓List.nil_append, ↓kI_s, ↓kJ_s, ↓kN_s, ↓kO_s, ↓kZ_s, ↓kE_s, ↓an_rfl, ↓bt1 n00, ↓bt2 n00, ↓bf1 n10, ↓bf2 n10, ↓an_sz0, ↓an_sz1, ↓an_sz2, ↓an_sz3, ↓an_sz4, ↓an_ri, ↓an_rb0, ↓an_rb1, ↓an_b0, ↓an_b1, true_and, ↓ai_0s, ↓al_0s, ↓av_0s, ↓aq_0s, ↓ai_1s, ↓al_1s, ↓av_1s, ↓aq_1s, ↓ai_2s, ↓al_2s, ↓av_2s, ↓aq_2s, ↓ai_3s, ↓al_3s, ↓av_3s, ↓aq_3s, ↓ai_4s, ↓al_4s, ↓av_4s, ↓aq_4s, ↓ai_5s, ↓al_5s, ↓av_5s, ↓aq_5s, ↓ai_6s, ↓al_6s, ↓av_6s, ↓aq_6s, ↓ai_7s, ↓al_7s, ↓av_7s, ↓aq_7s, ↓an_l3, ↓bk_24, ↓Sg_11, ↓Sg_20, ↓Sg_23, ↓Sg_24, ↓kp_24_25, ↓kp_24_51, ↓kp_24_78, ↓an_t hc0, ↓an_rv hc0, ↓oW_e hc1, ↓bf1 hc2, ↓bf2 hc2, ↓oW_e hc3, ↓bf1 hc4, ↓bf2 hc4, ↓oW_e hc5]
        exact hs
/-- NoThreeModel.readBoth(I)V -/
noncomputable def F_25_5 (tab : px_T) (g24 : px_M → Nat → Int32 → Option (px_M)) (g25 : px_M → Nat → Int32 → Option (px_M)) (g26 : px_M → Nat → Int32 → Option (px_M)) (x0 : Nat) (x1 : Int32) (σ : px_M) : Option ((px_M) ⊕ (px_M)) := gd (px_obj (px_lay tab x0) 0) ((f_12 tab σ x0 ((nI 5))).bind fun q1 => if q1.1 = nI 0 then (some (.inr (q1.2))) else ((g24 q1.2 x0 x1).bind fun q2 => (f_19 tab q2 x0 ((nI 3006))).bind fun q3 => some (.inl q3)))
noncomputable def f_25_5 (tab : px_T) (g24 : px_M → Nat → Int32 → Option (px_M)) (g25 : px_M → Nat → Int32 → Option (px_M)) (g26 : px_M → Nat → Int32 → Option (px_M)) (x0 : Nat) (x1 : Int32) (σ : px_M) : Option (px_M) := lpO (fun s : px_M => F_25_5 tab g24 g25 g26 x0 x1 s) σ
theorem f_25_5_eq (tab : px_T) (g24 : px_M → Nat → Int32 → Option (px_M)) (g25 : px_M → Nat → Int32 → Option (px_M)) (g26 : px_M → Nat → Int32 → Option (px_M)) (x0 : Nat) (x1 : Int32) (σ : px_M) : f_25_5 tab g24 g25 g26 x0 x1 σ = (F_25_5 tab g24 g25 g26 x0 x1 σ).bind (Sum.elim (fun s => f_25_5 tab g24 g25 g26 x0 x1 s) some) := lpO_eq _ _
noncomputable def F_25 (tab : px_T) (g24 : px_M → Nat → Int32 → Option (px_M)) (g25 : px_M → Nat → Int32 → Option (px_M)) (g26 : px_M → Nat → Int32 → Option (px_M)) (σ : px_M) (x0 : Nat) (x1 : Int32) : Option (px_M) := gd (px_obj (px_lay tab x0) 0) ((g24 σ x0 x1).bind fun q1 => f_25_5 tab g24 g25 g26 x0 x1 q1)
def kp_25_5 (Q : Nat → Int32 → px_M → Prop) : px_P := fun ls st τ => st = [] ∧ kN ls (fun x0 ls => kI ls (fun x1 ls => kE ls (Q x0 x1 τ)))
theorem kq_25_5 {C : px_C} {k : Option px_V → px_M → Prop} {Q : Nat → Int32 → px_M → Prop} (H : ∀ (x0 : Nat) (x1 : Int32) (τ : px_M), Q x0 x1 τ → px_W C k 5 [some (.inr (.inr (some x0))), some (.inl x1)] [] τ) : ∀ ls st τ, kp_25_5 Q ls st τ → px_W C k 5 ls st τ := by
  intro ls st τ hz
  obtain ⟨ez, h0⟩ := hz
  obtain ⟨x0, l0, e0, h1⟩ := kN_sp h0
  obtain ⟨x1, l1, e1, h2⟩ := kI_sp h1
  obtain ⟨ey, hy⟩ := kE_sp h2
  subst ez
  subst ey
  subst e1
  subst e0
  exact H x0 x1 τ hy
set_option maxHeartbeats 4000000 in
set_option maxRecDepth 100000 in
theorem rl_25_5 {C : px_C} (hn : px_nd (px_tb C)) {h : Nat} (hh : 69 ≤ h) (hC : px_ok C pn_i25 h) {g24 : px_M → Nat → Int32 → Option (px_M)} {g25 : px_M → Nat → Int32 → Option (px_M)} {g26 : px_M → Nat → Int32 → Option (px_M)} (hg24 : px_Ok (px_tb C) pn_i24 (h - 1) (Sg_24 g24)) (hg25 : px_Ok (px_tb C) pn_i25 (h - 1) (Sg_25 g25)) (hg26 : px_Ok (px_tb C) pn_i26 (h - 1) (Sg_26 g26)) {k : Option px_V → px_M → Prop} {x0 : Nat} {x1 : Int32} : ∀ s : px_M, oW (f_25_5 (px_tb C) g24 g25 g26 x0 x1 s) (fun τ => k none τ) → (fun s : px_M => px_W C k 5 [some (.inr (.inr (some x0))), some (.inl x1)] [] s) s := by
  intro s h0
  refine lpO_sound (P := (fun s : px_M => px_W C k 5 [some (.inr (.inr (some x0))), some (.inl x1)] [] s)) (fun s hs => ?_) h0
  revert hs
  generalize s = σ
  intro hs
  refine px_runH (h - 1) ck_25 [(12, Sg_12 (f_12 (px_tb C))), (19, Sg_19 (f_19 (px_tb C))), (24, Sg_24 g24)] [(5, kp_25_5 (fun y0 y1 τ => y0 = x0 ∧ y1 = x1 ∧ (fun s : px_M => px_W C k 5 [some (.inr (.inr (some x0))), some (.inl x1)] [] s) τ))] 80 2 none rfl rfl hC (px_sp1 (mf_12 hn (by omega)) (px_sp1 (mf_19 hn (by omega)) (px_sp1 (hg24) px_nosp))) (by omega) (px_cut1 (kq_25_5 (fun y0 y1 τ hq => by obtain ⟨rfl, rfl, hq⟩ := hq; exact hq)) px_nocut) (fun G Jf hG hJf => ?_)
  replace hs : oW (F_25_5 (px_tb C) g24 g25 g26 x0 x1 σ) _ := hs
  unfold F_25_5 at hs
  obtain ⟨hc0, hs⟩ := oW_gx hs
  obtain ⟨q1, hc1, hs⟩ := oW_bx hs
  by_cases hc2 : q1.1 = nI 0
  · replace hs := oW_t hs hc2
    simp only [↓hG, ↓hJf, ↓px_vc, ↓px_ex, ↓px_jp, ↓px_gi, ↓px_gl, ↓px_gr, ↓px_s1, ↓px_s2, ↓px_nl, ↓px_i1, ↓px_l1, ↓r1_s, ↓px_q1, ↓px_i2, ↓px_l2, ↓px_il, ↓px_d0, ↓px_d1, ↓px_d2, ↓px_pop, ↓px_sp, ↓px_rd, ↓px_rf, ↓pn_xf, ↓px_pt, ↓px_sw, ↓pn_SW, ↓px_ma, ↓reduceIte, Nat.reduceEqDiff, Nat.reduceAdd, Nat.reduceSub, ↓Option.toList_some, ↓Option.toList_none, ↓List.cons_append, ↓List.nil_append, ↓kI_s, ↓kJ_s, ↓kN_s, ↓kO_s, ↓kZ_s, ↓kE_s, ↓an_rfl, ↓bt1 n00, ↓bt2 n00, ↓bf1 n10, ↓bf2 n10, ↓an_sz0, ↓an_sz1, ↓an_sz2, ↓an_sz3, ↓an_sz4, ↓an_ri, ↓an_rb0, ↓an_rb1, ↓an_b0, ↓an_b1, true_and, ↓ai_0s, ↓al_0s, ↓av_0s, ↓aq_0s, ↓ai_1s, ↓al_1s, ↓av_1s, ↓aq_1s, ↓ai_2s, ↓al_2s, ↓av_2s, ↓aq_2s, ↓ai_3s, ↓al_3s, ↓av_3s, ↓aq_3s, ↓ai_4s, ↓al_4s, ↓av_4s, ↓aq_4s, ↓ai_5s, ↓al_5s, ↓av_5s, ↓aq_5s, ↓ai_6s, ↓al_6s, ↓av_6s, ↓aq_6s, ↓ai_7s, ↓al_7s, ↓av_7s, ↓aq_7s, ↓an_l2, ↓bk_25, ↓Sg_12, ↓Sg_19, ↓Sg_24, ↓kp_25_5, ↓an_t hc0, ↓an_rv hc0, ↓oW_e hc1, ↓bt1 hc2, ↓bt2 hc2]
    rw [oW_some] at hs
    exact hs
  · replace hs := oW_f hs hc2
    obtain ⟨q2, hc3, hs⟩ := oW_bx hs
    obtain ⟨q3, hc4, hs⟩ := oW_bx hs
    simp only [↓hG, ↓hJf, ↓px_vc, ↓px_ex, ↓px_jp, ↓px_gi, ↓px_gl, ↓px_gr, ↓px_s1, ↓px_s2, ↓px_nl, ↓px_i1, ↓px_l1, ↓r1_s, ↓px_q1, ↓px_i2, ↓px_l2, ↓px_il, ↓px_d0, ↓px_d1, ↓px_d2, ↓px_pop, ↓px_sp, ↓px_rd, ↓px_rf, ↓pn_xf, ↓px_pt, ↓px_sw, ↓pn_SW, ↓px_ma, ↓reduceIte, Nat.reduceEqDiff, Nat.reduceAdd, Nat.reduceSub, ↓Option.toList_some, ↓Option.toList_none, ↓List.cons_append, ↓List.nil_append, ↓kI_s, ↓kJ_s, ↓kN_s, ↓kO_s, ↓kZ_s, ↓kE_s, ↓an_rfl, ↓bt1 n00, ↓bt2 n00, ↓bf1 n10, ↓bf2 n10, ↓an_sz0, ↓an_sz1, ↓an_sz2, ↓an_sz3, ↓an_sz4, ↓an_ri, ↓an_rb0, ↓an_rb1, ↓an_b0, ↓an_b1, true_and, ↓ai_0s, ↓al_0s, ↓av_0s, ↓aq_0s, ↓ai_1s, ↓al_1s, ↓av_1s, ↓aq_1s, ↓ai_2s, ↓al_2s, ↓av_2s, ↓aq_2s, ↓ai_3s, ↓al_3s, ↓av_3s, ↓aq_3s, ↓ai_4s, ↓al_4s, ↓av_4s, ↓aq_4s, ↓ai_5s, ↓al_5s, ↓av_5s, ↓aq_5s, ↓ai_6s, ↓al_6s, ↓av_6s, ↓aq_6s, ↓ai_7s, ↓al_7s, ↓av_7s, ↓aq_7s, ↓an_l2, ↓bk_25, ↓Sg_12, ↓Sg_19, ↓Sg_24, ↓kp_25_5, ↓an_t hc0, ↓an_rv hc0, ↓oW_e hc1, ↓bf1 hc2, ↓bf2 hc2, ↓oW_e hc3, ↓oW_e hc4]
    rw [oW_some] at hs
    exact hs
set_option maxHeartbeats 4000000 in
set_option maxRecDepth 100000 in
theorem mF_25 {tab : px_T} (hn : px_nd tab) {h : Nat} (hh : 69 ≤ h) {g24 : px_M → Nat → Int32 → Option (px_M)} {g25 : px_M → Nat → Int32 → Option (px_M)} {g26 : px_M → Nat → Int32 → Option (px_M)} (hg24 : px_Ok tab pn_i24 (h - 1) (Sg_24 g24)) (hg25 : px_Ok tab pn_i25 (h - 1) (Sg_25 g25)) (hg26 : px_Ok tab pn_i26 (h - 1) (Sg_26 g26)) : px_Ok tab pn_i25 h (Sg_25 (F_25 tab g24 g25 g26)) := by
  refine px_mth hn (by decide +kernel) (fun av σ k hS => ?_) (fun C hT hC av σ k hS => ?_)
  · obtain ⟨x0, av0, e0, h0⟩ := av_0p hS
    obtain ⟨x1, av1, e1, h1⟩ := ai_1p h0
    obtain ⟨ez, hs⟩ := h1
    subst ez
    subst e1
    subst e0
    exact Nat.le_of_ble_eq_true rfl
  · obtain ⟨x0, av0, e0, h0⟩ := av_0p hS
    obtain ⟨x1, av1, e1, h1⟩ := ai_1p h0
    obtain ⟨ez, hs⟩ := h1
    subst ez
    subst e1
    subst e0
    subst hT
    show px_W C k 0 [some (.inr (.inr (some x0))), some (.inl x1)] [] σ
    refine px_runH (h - 1) ck_25 [(24, Sg_24 g24)] [(5, kp_25_5 (fun y0 y1 τ => oW (f_25_5 (px_tb C) g24 g25 g26 y0 y1 τ) (fun τ => k none τ)))] 80 2 none rfl rfl hC (px_sp1 (hg24) px_nosp) (by omega) (px_cut1 (kq_25_5 (fun y0 y1 τ hq => by exact rl_25_5 hn (by omega) hC hg24 hg25 hg26 τ hq)) px_nocut) (fun G Jf hG hJf => ?_)
    unfold F_25 at hs
    obtain ⟨hc0, hs⟩ := oW_gx hs
    obtain ⟨q1, hc1, hs⟩ := oW_bx hs
    simp only [↓hG, ↓hJf, ↓px_vc, ↓px_ex, ↓px_jp, ↓px_gi, ↓px_gl, ↓px_gr, ↓px_s1, ↓px_s2, ↓px_nl, ↓px_i1, ↓px_l1, ↓r1_s, ↓px_q1, ↓px_i2, ↓px_l2, ↓px_il, ↓px_d0, ↓px_d1, ↓px_d2, ↓px_pop, ↓px_sp, ↓px_rd, ↓px_rf, ↓pn_xf, ↓px_pt, ↓px_sw, ↓pn_SW, ↓px_ma, ↓reduceIte, Nat.reduceEqDiff, Nat.reduceAdd, Nat.reduceSub, ↓Option.toList_some, ↓Option.toList_none, ↓List.cons_append, ↓List.nil_append, ↓kI_s, ↓kJ_s, ↓kN_s, ↓kO_s, ↓kZ_s, ↓kE_s, ↓an_rfl, ↓bt1 n00, ↓bt2 n00, ↓bf1 n10, ↓bf2 n10, ↓an_sz0, ↓an_sz1, ↓an_sz2, ↓an_sz3, ↓an_sz4, ↓an_ri, ↓an_rb0, ↓an_rb1, ↓an_b0, ↓an_b1, true_and, ↓ai_0s, ↓al_0s, ↓av_0s, ↓aq_0s, ↓ai_1s, ↓al_1s, ↓av_1s, ↓aq_1s, ↓ai_2s, ↓al_2s, ↓av_2s, ↓aq_2s, ↓ai_3s, ↓al_3s, ↓av_3s, ↓aq_3s, ↓ai_4s, ↓al_4s, ↓av_4s, ↓aq_4s, ↓ai_5s, ↓al_5s, ↓av_5s, ↓aq_5s, ↓ai_6s, ↓al_6s, ↓av_6s, ↓aq_6s, ↓ai_7s, ↓al_7s, ↓av_7s, ↓aq_7s, ↓an_l2, ↓bk_25, ↓Sg_24, ↓kp_25_5, ↓an_t hc0, ↓an_rv hc0, ↓oW_e hc1]
    exact hs
/-- NoThreeModel.readTruth(I)V -/
noncomputable def F_26_5 (tab : px_T) (g24 : px_M → Nat → Int32 → Option (px_M)) (g25 : px_M → Nat → Int32 → Option (px_M)) (g26 : px_M → Nat → Int32 → Option (px_M)) (x0 : Nat) (x1 : Int32) (σ : px_M) : Option ((px_M) ⊕ (px_M)) := gd (px_obj (px_lay tab x0) 0) ((f_12 tab σ x0 ((nI 4))).bind fun q1 => if q1.1 = nI 0 then (some (.inr (q1.2))) else ((g25 q1.2 x0 x1).bind fun q2 => (f_19 tab q2 x0 ((nI 3007))).bind fun q3 => some (.inl q3)))
noncomputable def f_26_5 (tab : px_T) (g24 : px_M → Nat → Int32 → Option (px_M)) (g25 : px_M → Nat → Int32 → Option (px_M)) (g26 : px_M → Nat → Int32 → Option (px_M)) (x0 : Nat) (x1 : Int32) (σ : px_M) : Option (px_M) := lpO (fun s : px_M => F_26_5 tab g24 g25 g26 x0 x1 s) σ
theorem f_26_5_eq (tab : px_T) (g24 : px_M → Nat → Int32 → Option (px_M)) (g25 : px_M → Nat → Int32 → Option (px_M)) (g26 : px_M → Nat → Int32 → Option (px_M)) (x0 : Nat) (x1 : Int32) (σ : px_M) : f_26_5 tab g24 g25 g26 x0 x1 σ = (F_26_5 tab g24 g25 g26 x0 x1 σ).bind (Sum.elim (fun s => f_26_5 tab g24 g25 g26 x0 x1 s) some) := lpO_eq _ _
noncomputable def F_26 (tab : px_T) (g24 : px_M → Nat → Int32 → Option (px_M)) (g25 : px_M → Nat → Int32 → Option (px_M)) (g26 : px_M → Nat → Int32 → Option (px_M)) (σ : px_M) (x0 : Nat) (x1 : Int32) : Option (px_M) := gd (px_obj (px_lay tab x0) 0) ((g25 σ x0 x1).bind fun q1 => f_26_5 tab g24 g25 g26 x0 x1 q1)
def kp_26_5 (Q : Nat → Int32 → px_M → Prop) : px_P := fun ls st τ => st = [] ∧ kN ls (fun x0 ls => kI ls (fun x1 ls => kE ls (Q x0 x1 τ)))
theorem kq_26_5 {C : px_C} {k : Option px_V → px_M → Prop} {Q : Nat → Int32 → px_M → Prop} (H : ∀ (x0 : Nat) (x1 : Int32) (τ : px_M), Q x0 x1 τ → px_W C k 5 [some (.inr (.inr (some x0))), some (.inl x1)] [] τ) : ∀ ls st τ, kp_26_5 Q ls st τ → px_W C k 5 ls st τ := by
  intro ls st τ hz
  obtain ⟨ez, h0⟩ := hz
  obtain ⟨x0, l0, e0, h1⟩ := kN_sp h0
  obtain ⟨x1, l1, e1, h2⟩ := kI_sp h1
  obtain ⟨ey, hy⟩ := kE_sp h2
  subst ez
  subst ey
  subst e1
  subst e0
  exact H x0 x1 τ hy
set_option maxHeartbeats 4000000 in
set_option maxRecDepth 100000 in
theorem rl_26_5 {C : px_C} (hn : px_nd (px_tb C)) {h : Nat} (hh : 69 ≤ h) (hC : px_ok C pn_i26 h) {g24 : px_M → Nat → Int32 → Option (px_M)} {g25 : px_M → Nat → Int32 → Option (px_M)} {g26 : px_M → Nat → Int32 → Option (px_M)} (hg24 : px_Ok (px_tb C) pn_i24 (h - 1) (Sg_24 g24)) (hg25 : px_Ok (px_tb C) pn_i25 (h - 1) (Sg_25 g25)) (hg26 : px_Ok (px_tb C) pn_i26 (h - 1) (Sg_26 g26)) {k : Option px_V → px_M → Prop} {x0 : Nat} {x1 : Int32} : ∀ s : px_M, oW (f_26_5 (px_tb C) g24 g25 g26 x0 x1 s) (fun τ => k none τ) → (fun s : px_M => px_W C k 5 [some (.inr (.inr (some x0))), some (.inl x1)] [] s) s := by
  intro s h0
  refine lpO_sound (P := (fun s : px_M => px_W C k 5 [some (.inr (.inr (some x0))), some (.inl x1)] [] s)) (fun s hs => ?_) h0
  revert hs
  generalize s = σ
  intro hs
  refine px_runH (h - 1) ck_26 [(12, Sg_12 (f_12 (px_tb C))), (19, Sg_19 (f_19 (px_tb C))), (25, Sg_25 g25)] [(5, kp_26_5 (fun y0 y1 τ => y0 = x0 ∧ y1 = x1 ∧ (fun s : px_M => px_W C k 5 [some (.inr (.inr (some x0))), some (.inl x1)] [] s) τ))] 80 2 none rfl rfl hC (px_sp1 (mf_12 hn (by omega)) (px_sp1 (mf_19 hn (by omega)) (px_sp1 (hg25) px_nosp))) (by omega) (px_cut1 (kq_26_5 (fun y0 y1 τ hq => by obtain ⟨rfl, rfl, hq⟩ := hq; exact hq)) px_nocut) (fun G Jf hG hJf => ?_)
  replace hs : oW (F_26_5 (px_tb C) g24 g25 g26 x0 x1 σ) _ := hs
  unfold F_26_5 at hs
  obtain ⟨hc0, hs⟩ := oW_gx hs
  obtain ⟨q1, hc1, hs⟩ := oW_bx hs
  by_cases hc2 : q1.1 = nI 0
  · replace hs := oW_t hs hc2
    simp only [↓hG, ↓hJf, ↓px_vc, ↓px_ex, ↓px_jp, ↓px_gi, ↓px_gl, ↓px_gr, ↓px_s1, ↓px_s2, ↓px_nl, ↓px_i1, ↓px_l1, ↓r1_s, ↓px_q1, ↓px_i2, ↓px_l2, ↓px_il, ↓px_d0, ↓px_d1, ↓px_d2, ↓px_pop, ↓px_sp, ↓px_rd, ↓px_rf, ↓pn_xf, ↓px_pt, ↓px_sw, ↓pn_SW, ↓px_ma, ↓reduceIte, Nat.reduceEqDiff, Nat.reduceAdd, Nat.reduceSub, ↓Option.toList_some, ↓Option.toList_none, ↓List.cons_append, ↓List.nil_append, ↓kI_s, ↓kJ_s, ↓kN_s, ↓kO_s, ↓kZ_s, ↓kE_s, ↓an_rfl, ↓bt1 n00, ↓bt2 n00, ↓bf1 n10, ↓bf2 n10, ↓an_sz0, ↓an_sz1, ↓an_sz2, ↓an_sz3, ↓an_sz4, ↓an_ri, ↓an_rb0, ↓an_rb1, ↓an_b0, ↓an_b1, true_and, ↓ai_0s, ↓al_0s, ↓av_0s, ↓aq_0s, ↓ai_1s, ↓al_1s, ↓av_1s, ↓aq_1s, ↓ai_2s, ↓al_2s, ↓av_2s, ↓aq_2s, ↓ai_3s, ↓al_3s, ↓av_3s, ↓aq_3s, ↓ai_4s, ↓al_4s, ↓av_4s, ↓aq_4s, ↓ai_5s, ↓al_5s, ↓av_5s, ↓aq_5s, ↓ai_6s, ↓al_6s, ↓av_6s, ↓aq_6s, ↓ai_7s, ↓al_7s, ↓av_7s, ↓aq_7s, ↓an_l2, ↓bk_26, ↓Sg_12, ↓Sg_19, ↓Sg_25, ↓kp_26_5, ↓an_t hc0, ↓an_rv hc0, ↓oW_e hc1, ↓bt1 hc2, ↓bt2 hc2]
    rw [oW_some] at hs
    exact hs
  · replace hs := oW_f hs hc2
    obtain ⟨q2, hc3, hs⟩ := oW_bx hs
    obtain ⟨q3, hc4, hs⟩ := oW_bx hs
    simp only [↓hG, ↓hJf, ↓px_vc, ↓px_ex, ↓px_jp, ↓px_gi, ↓px_gl, ↓px_gr, ↓px_s1, ↓px_s2, ↓px_nl, ↓px_i1, ↓px_l1, ↓r1_s, ↓px_q1, ↓px_i2, ↓px_l2, ↓px_il, ↓px_d0, ↓px_d1, ↓px_d2, ↓px_pop, ↓px_sp, ↓px_rd, ↓px_rf, ↓pn_xf, ↓px_pt, ↓px_sw, ↓pn_SW, ↓px_ma, ↓reduceIte, Nat.reduceEqDiff, Nat.reduceAdd, Nat.reduceSub, ↓Option.toList_some, ↓Option.toList_none, ↓List.cons_append, ↓List.nil_append, ↓kI_s, ↓kJ_s, ↓kN_s, ↓kO_s, ↓kZ_s, ↓kE_s, ↓an_rfl, ↓bt1 n00, ↓bt2 n00, ↓bf1 n10, ↓bf2 n10, ↓an_sz0, ↓an_sz1, ↓an_sz2, ↓an_sz3, ↓an_sz4, ↓an_ri, ↓an_rb0, ↓an_rb1, ↓an_b0, ↓an_b1, true_and, ↓ai_0s, ↓al_0s, ↓av_0s, ↓aq_0s, ↓ai_1s, ↓al_1s, ↓av_1s, ↓aq_1s, ↓ai_2s, ↓al_2s, ↓av_2s, ↓aq_2s, ↓ai_3s, ↓al_3s, ↓av_3s, ↓aq_3s, ↓ai_4s, ↓al_4s, ↓av_4s, ↓aq_4s, ↓ai_5s, ↓al_5s, ↓av_5s, ↓aq_5s, ↓ai_6s, ↓al_6s, ↓av_6s, ↓aq_6s, ↓ai_7s, ↓al_7s, ↓av_7s, ↓aq_7s, ↓an_l2, ↓bk_26, ↓Sg_12, ↓Sg_19, ↓Sg_25, ↓kp_26_5, ↓an_t hc0, ↓an_rv hc0, ↓oW_e hc1, ↓bf1 hc2, ↓bf2 hc2, ↓oW_e hc3, ↓oW_e hc4]
    rw [oW_some] at hs
    exact hs
set_option maxHeartbeats 4000000 in
set_option maxRecDepth 100000 in
theorem mF_26 {tab : px_T} (hn : px_nd tab) {h : Nat} (hh : 69 ≤ h) {g24 : px_M → Nat → Int32 → Option (px_M)} {g25 : px_M → Nat → Int32 → Option (px_M)} {g26 : px_M → Nat → Int32 → Option (px_M)} (hg24 : px_Ok tab pn_i24 (h - 1) (Sg_24 g24)) (hg25 : px_Ok tab pn_i25 (h - 1) (Sg_25 g25)) (hg26 : px_Ok tab pn_i26 (h - 1) (Sg_26 g26)) : px_Ok tab pn_i26 h (Sg_26 (F_26 tab g24 g25 g26)) := by
  refine px_mth hn (by decide +kernel) (fun av σ k hS => ?_) (fun C hT hC av σ k hS => ?_)
  · obtain ⟨x0, av0, e0, h0⟩ := av_0p hS
    obtain ⟨x1, av1, e1, h1⟩ := ai_1p h0
    obtain ⟨ez, hs⟩ := h1
    subst ez
    subst e1
    subst e0
    exact Nat.le_of_ble_eq_true rfl
  · obtain ⟨x0, av0, e0, h0⟩ := av_0p hS
    obtain ⟨x1, av1, e1, h1⟩ := ai_1p h0
    obtain ⟨ez, hs⟩ := h1
    subst ez
    subst e1
    subst e0
    subst hT
    show px_W C k 0 [some (.inr (.inr (some x0))), some (.inl x1)] [] σ
    refine px_runH (h - 1) ck_26 [(25, Sg_25 g25)] [(5, kp_26_5 (fun y0 y1 τ => oW (f_26_5 (px_tb C) g24 g25 g26 y0 y1 τ) (fun τ => k none τ)))] 80 2 none rfl rfl hC (px_sp1 (hg25) px_nosp) (by omega) (px_cut1 (kq_26_5 (fun y0 y1 τ hq => by exact rl_26_5 hn (by omega) hC hg24 hg25 hg26 τ hq)) px_nocut) (fun G Jf hG hJf => ?_)
    unfold F_26 at hs
    obtain ⟨hc0, hs⟩ := oW_gx hs
    obtain ⟨q1, hc1, hs⟩ := oW_bx hs
    simp only [↓hG, ↓hJf, ↓px_vc, ↓px_ex, ↓px_jp, ↓px_gi, ↓px_gl, ↓px_gr, ↓px_s1, ↓px_s2, ↓px_nl, ↓px_i1, ↓px_l1, ↓r1_s, ↓px_q1, ↓px_i2, ↓px_l2, ↓px_il, ↓px_d0, ↓px_d1, ↓px_d2, ↓px_pop, ↓px_sp, ↓px_rd, ↓px_rf, ↓pn_xf, ↓px_pt, ↓px_sw, ↓pn_SW, ↓px_ma, ↓reduceIte, Nat.reduceEqDiff, Nat.reduceAdd, Nat.reduceSub, ↓Option.toList_some, ↓Option.toList_none, ↓List.cons_append, ↓List.nil_append, ↓kI_s, ↓kJ_s, ↓kN_s, ↓kO_s, ↓kZ_s, ↓kE_s, ↓an_rfl, ↓bt1 n00, ↓bt2 n00, ↓bf1 n10, ↓bf2 n10, ↓an_sz0, ↓an_sz1, ↓an_sz2, ↓an_sz3, ↓an_sz4, ↓an_ri, ↓an_rb0, ↓an_rb1, ↓an_b0, ↓an_b1, true_and, ↓ai_0s, ↓al_0s, ↓av_0s, ↓aq_0s, ↓ai_1s, ↓al_1s, ↓av_1s, ↓aq_1s, ↓ai_2s, ↓al_2s, ↓av_2s, ↓aq_2s, ↓ai_3s, ↓al_3s, ↓av_3s, ↓aq_3s, ↓ai_4s, ↓al_4s, ↓av_4s, ↓aq_4s, ↓ai_5s, ↓al_5s, ↓av_5s, ↓aq_5s, ↓ai_6s, ↓al_6s, ↓av_6s, ↓aq_6s, ↓ai_7s, ↓al_7s, ↓av_7s, ↓aq_7s, ↓an_l2, ↓bk_26, ↓Sg_25, ↓kp_26_5, ↓an_t hc0, ↓an_rv hc0, ↓oW_e hc1]
    exact hs
noncomputable def fr_24 (tab : px_T) : Nat → (px_M → Nat → Int32 → Option (px_M)) × (px_M → Nat → Int32 → Option (px_M)) × (px_M → Nat → Int32 → Option (px_M))
  | 0 => (fun _ _ _ => none, fun _ _ _ => none, fun _ _ _ => none)
  | d + 1 => (F_24 tab ((fr_24 tab d).1) ((fr_24 tab d).2.1) ((fr_24 tab d).2.2), F_25 tab ((fr_24 tab d).1) ((fr_24 tab d).2.1) ((fr_24 tab d).2.2), F_26 tab ((fr_24 tab d).1) ((fr_24 tab d).2.1) ((fr_24 tab d).2.2))
noncomputable def f_24 (tab : px_T) (d : Nat) : px_M → Nat → Int32 → Option (px_M) := (fr_24 tab d).1
noncomputable def f_25 (tab : px_T) (d : Nat) : px_M → Nat → Int32 → Option (px_M) := (fr_24 tab d).2.1
noncomputable def f_26 (tab : px_T) (d : Nat) : px_M → Nat → Int32 → Option (px_M) := (fr_24 tab d).2.2
theorem f_24_S (tab : px_T) (d : Nat) : f_24 tab (d + 1) = F_24 tab (f_24 tab d) (f_25 tab d) (f_26 tab d) := rfl
theorem f_25_S (tab : px_T) (d : Nat) : f_25 tab (d + 1) = F_25 tab (f_24 tab d) (f_25 tab d) (f_26 tab d) := rfl
theorem f_26_S (tab : px_T) (d : Nat) : f_26 tab (d + 1) = F_26 tab (f_24 tab d) (f_25 tab d) (f_26 tab d) := rfl
theorem mr_f24 {tab : px_T} (hn : px_nd tab) : ∀ (d h : Nat), 68 + d ≤ h → px_Ok tab pn_i24 h (Sg_24 (f_24 tab d)) ∧ px_Ok tab pn_i25 h (Sg_25 (f_25 tab d)) ∧ px_Ok tab pn_i26 h (Sg_26 (f_26 tab d)) := by
  intro d
  induction d with
  | zero =>
    intro h hh
    exact ⟨px_Ok_no (fun av σ k h0 => by obtain ⟨x0, av0, -, h1⟩ := av_0p h0; obtain ⟨x1, av1, -, h2⟩ := ai_1p h1; obtain ⟨x, hx, -⟩ := h2.2; cases hx), px_Ok_no (fun av σ k h0 => by obtain ⟨x0, av0, -, h1⟩ := av_0p h0; obtain ⟨x1, av1, -, h2⟩ := ai_1p h1; obtain ⟨x, hx, -⟩ := h2.2; cases hx), px_Ok_no (fun av σ k h0 => by obtain ⟨x0, av0, -, h1⟩ := av_0p h0; obtain ⟨x1, av1, -, h2⟩ := ai_1p h1; obtain ⟨x, hx, -⟩ := h2.2; cases hx)⟩
  | succ d ih =>
    intro h hh
    obtain ⟨h24, h25, h26⟩ := ih (h - 1) (by omega)
    exact ⟨mF_24 hn (by omega) h24 h25 h26, mF_25 hn (by omega) h24 h25 h26, mF_26 hn (by omega) h24 h25 h26⟩
theorem mf_24 {tab : px_T} (hn : px_nd tab) {h d : Nat} (hh : 68 + d ≤ h) : px_Ok tab pn_i24 h (Sg_24 (f_24 tab d)) := (mr_f24 hn d h hh).1
theorem mf_25 {tab : px_T} (hn : px_nd tab) {h d : Nat} (hh : 68 + d ≤ h) : px_Ok tab pn_i25 h (Sg_25 (f_25 tab d)) := (mr_f24 hn d h hh).2.1
theorem mf_26 {tab : px_T} (hn : px_nd tab) {h d : Nat} (hh : 68 + d ≤ h) : px_Ok tab pn_i26 h (Sg_26 (f_26 tab d)) := (mr_f24 hn d h hh).2.2
def Sg_27 (g : px_M → Nat → Option (px_M)) : px_S := fun av σ k => av_0 av (fun x0 av => av = [] ∧ oW (g σ x0) (fun τ => k none τ))
/-- NoThreeModel.readRule()V -/
noncomputable def f_27_79 (tab : px_T) (σ : px_M) (x0 : Nat) (x1 : Int32) (x2 : Int32) : Option (px_M) := gd (px_obj (px_lay tab x0) 0) ((((σ).2.2 x0 4)).bind fun n1 => oA (px_lay tab n1) fun t2 l3 => gd (t2 = 0 ∨ t2 = 11) (gd (vp_in (nI 171) l3) (gd (t2 = 0) (gd (vp_in ((nI 165) + x1) l3) (((((px_wi σ n1 (((nI 165) + x1)).toNatClampNeg ((px_av t2 σ n1 ((nI 171)).toNatClampNeg) - x2))).2.2 x0 4)).bind fun n4 => oA (px_lay tab n4) fun t5 l6 => gd (t5 = 0 ∨ t5 = 11) (gd (vp_in (nI 158) l6) (gd (t5 = 0) (some ((px_wi (px_wi σ n1 (((nI 165) + x1)).toNatClampNeg ((px_av t2 σ n1 ((nI 171)).toNatClampNeg) - x2)) n4 ((nI 158)).toNatClampNeg ((px_av t5 (px_wi σ n1 (((nI 165) + x1)).toNatClampNeg ((px_av t2 σ n1 ((nI 171)).toNatClampNeg) - x2)) n4 ((nI 158)).toNatClampNeg) + (nI 1))))))))))))
noncomputable def f_27_46 (tab : px_T) (σ : px_M) (x0 : Nat) (x1 : Int32) : Option (px_M) := gd (px_obj (px_lay tab x0) 0) ((((σ).2.2 x0 4)).bind fun n1 => oA (px_lay tab n1) fun t2 l3 => gd (t2 = 0 ∨ t2 = 11) (gd (vp_in (nI 171) l3) ((f_26 tab 60 σ x0 ((nI 0))).bind fun q4 => if ((q4).1 x0 11) = nI 0 then ((((q4).2.2 x0 4)).bind fun n5 => oA (px_lay tab n5) fun t6 l7 => gd (t6 = 0) (gd (vp_in ((nI 159) + x1) l7) (f_27_79 tab ((px_wi q4 n5 (((nI 159) + x1)).toNatClampNeg (px_av t2 σ n1 ((nI 171)).toNatClampNeg))) x0 x1 ((px_av t2 σ n1 ((nI 171)).toNatClampNeg))))) else (some (q4)))))
noncomputable def f_27_20 (tab : px_T) (σ : px_M) (x0 : Nat) (x1 : Int32) : Option (px_M) := gd (px_obj (px_lay tab x0) 0) (if ((σ).1 x0 11) = nI 0 then ((f_9 tab σ x0).bind fun q1 => (f_12 tab q1 x0 ((nI 21))).bind fun q2 => bn (q2.1 = nI 0) (f_27_46 tab q2.2 x0 x1) ((f_10 tab q2.2 x0 ((nI 2))).bind fun q3 => f_27_46 tab q3 x0 x1)) else (some (σ)))
noncomputable def f_27 (tab : px_T) (σ : px_M) (x0 : Nat) : Option (px_M) := gd (px_obj (px_lay tab x0) 0) ((((σ).2.2 x0 4)).bind fun n1 => oA (px_lay tab n1) fun t2 l3 => gd (t2 = 0 ∨ t2 = 11) (gd (vp_in (nI 158) l3) (bn ((px_av t2 σ n1 ((nI 158)).toNatClampNeg) = (nI 6)) (f_27_20 tab σ x0 ((px_av t2 σ n1 ((nI 158)).toNatClampNeg))) ((f_10 tab σ x0 ((nI 4))).bind fun q4 => f_27_20 tab q4 x0 ((px_av t2 σ n1 ((nI 158)).toNatClampNeg))))))
def kp_27_79 (Q : Nat → Int32 → Int32 → px_M → Prop) : px_P := fun ls st τ => st = [] ∧ kN ls (fun x0 ls => kI ls (fun x1 ls => kI ls (fun x2 ls => kE ls (Q x0 x1 x2 τ))))
theorem kq_27_79 {C : px_C} {k : Option px_V → px_M → Prop} {Q : Nat → Int32 → Int32 → px_M → Prop} (H : ∀ (x0 : Nat) (x1 : Int32) (x2 : Int32) (τ : px_M), Q x0 x1 x2 τ → px_W C k 79 [some (.inr (.inr (some x0))), some (.inl x1), some (.inl x2)] [] τ) : ∀ ls st τ, kp_27_79 Q ls st τ → px_W C k 79 ls st τ := by
  intro ls st τ hz
  obtain ⟨ez, h0⟩ := hz
  obtain ⟨x0, l0, e0, h1⟩ := kN_sp h0
  obtain ⟨x1, l1, e1, h2⟩ := kI_sp h1
  obtain ⟨x2, l2, e2, h3⟩ := kI_sp h2
  obtain ⟨ey, hy⟩ := kE_sp h3
  subst ez
  subst ey
  subst e2
  subst e1
  subst e0
  exact H x0 x1 x2 τ hy
def kp_27_46 (Q : Nat → Int32 → px_M → Prop) : px_P := fun ls st τ => st = [] ∧ kN ls (fun x0 ls => kI ls (fun x1 ls => kZ ls (fun ls => kE ls (Q x0 x1 τ))))
theorem kq_27_46 {C : px_C} {k : Option px_V → px_M → Prop} {Q : Nat → Int32 → px_M → Prop} (H : ∀ (x0 : Nat) (x1 : Int32) (τ : px_M), Q x0 x1 τ → ∀ (z2 : Option px_V), px_W C k 46 [some (.inr (.inr (some x0))), some (.inl x1), z2] [] τ) : ∀ ls st τ, kp_27_46 Q ls st τ → px_W C k 46 ls st τ := by
  intro ls st τ hz
  obtain ⟨ez, h0⟩ := hz
  obtain ⟨x0, l0, e0, h1⟩ := kN_sp h0
  obtain ⟨x1, l1, e1, h2⟩ := kI_sp h1
  obtain ⟨z2, l2, e2, h3⟩ := kZ_sp h2
  obtain ⟨ey, hy⟩ := kE_sp h3
  subst ez
  subst ey
  subst e2
  subst e1
  subst e0
  exact H x0 x1 τ hy z2
def kp_27_20 (Q : Nat → Int32 → px_M → Prop) : px_P := fun ls st τ => st = [] ∧ kN ls (fun x0 ls => kI ls (fun x1 ls => kZ ls (fun ls => kE ls (Q x0 x1 τ))))
theorem kq_27_20 {C : px_C} {k : Option px_V → px_M → Prop} {Q : Nat → Int32 → px_M → Prop} (H : ∀ (x0 : Nat) (x1 : Int32) (τ : px_M), Q x0 x1 τ → ∀ (z2 : Option px_V), px_W C k 20 [some (.inr (.inr (some x0))), some (.inl x1), z2] [] τ) : ∀ ls st τ, kp_27_20 Q ls st τ → px_W C k 20 ls st τ := by
  intro ls st τ hz
  obtain ⟨ez, h0⟩ := hz
  obtain ⟨x0, l0, e0, h1⟩ := kN_sp h0
  obtain ⟨x1, l1, e1, h2⟩ := kI_sp h1
  obtain ⟨z2, l2, e2, h3⟩ := kZ_sp h2
  obtain ⟨ey, hy⟩ := kE_sp h3
  subst ez
  subst ey
  subst e2
  subst e1
  subst e0
  exact H x0 x1 τ hy z2
set_option maxHeartbeats 4000000 in
set_option maxRecDepth 100000 in
theorem rl_27_79 {C : px_C} (hn : px_nd (px_tb C)) {h : Nat} (hh : 130 ≤ h) (hC : px_ok C pn_i27 h) {k : Option px_V → px_M → Prop} {x0 : Nat} {x1 : Int32} {x2 : Int32} {σ : px_M} (hs : oW (f_27_79 (px_tb C) σ x0 x1 x2) (fun τ => k none τ)) : px_W C k 79 [some (.inr (.inr (some x0))), some (.inl x1), some (.inl x2)] [] σ := by
  refine px_runH (h - 1) ck_27 [] [] 80 3 none rfl rfl hC px_nosp (by omega) px_nocut (fun G Jf hG hJf => ?_)
  unfold f_27_79 at hs
  obtain ⟨hc0, hs⟩ := oW_gx hs
  obtain ⟨n1, hc1, hs⟩ := oW_bx hs
  obtain ⟨t2, l3, hc2, hs⟩ := oW_ax hs
  obtain ⟨hc3, hs⟩ := oW_gx hs
  obtain ⟨hc4, hs⟩ := oW_gx hs
  obtain ⟨hc5, hs⟩ := oW_gx hs
  obtain ⟨hc6, hs⟩ := oW_gx hs
  obtain ⟨n4, hc7, hs⟩ := oW_bx hs
  obtain ⟨t5, l6, hc8, hs⟩ := oW_ax hs
  obtain ⟨hc9, hs⟩ := oW_gx hs
  obtain ⟨hc10, hs⟩ := oW_gx hs
  obtain ⟨hc11, hs⟩ := oW_gx hs
  simp only [↓hG, ↓hJf, ↓px_vc, ↓px_ex, ↓px_jp, ↓px_gi, ↓px_gl, ↓px_gr, ↓px_s1, ↓px_s2, ↓px_nl, ↓px_i1, ↓px_l1, ↓r1_s, ↓px_q1, ↓px_i2, ↓px_l2, ↓px_il, ↓px_d0, ↓px_d1, ↓px_d2, ↓px_pop, ↓px_sp, ↓px_rd, ↓px_rf, ↓pn_xf, ↓px_pt, ↓px_sw, ↓pn_SW, ↓px_ma, ↓reduceIte, Nat.reduceEqDiff, Nat.reduceAdd, Nat.reduceSub, ↓Option.toList_some, ↓Option.toList_none, ↓List.cons_append, ↓List.nil_append, ↓kI_s, ↓kJ_s, ↓kN_s, ↓kO_s, ↓kZ_s, ↓kE_s, ↓an_rfl, ↓bt1 n00, ↓bt2 n00, ↓bf1 n10, ↓bf2 n10, ↓an_sz0, ↓an_sz1, ↓an_sz2, ↓an_sz3, ↓an_sz4, ↓an_ri, ↓an_rb0, ↓an_rb1, ↓an_b0, ↓an_b1, true_and, ↓ai_0s, ↓al_0s, ↓av_0s, ↓aq_0s, ↓ai_1s, ↓al_1s, ↓av_1s, ↓aq_1s, ↓ai_2s, ↓al_2s, ↓av_2s, ↓aq_2s, ↓ai_3s, ↓al_3s, ↓av_3s, ↓aq_3s, ↓ai_4s, ↓al_4s, ↓av_4s, ↓aq_4s, ↓ai_5s, ↓al_5s, ↓av_5s, ↓aq_5s, ↓ai_6s, ↓al_6s, ↓av_6s, ↓aq_6s, ↓ai_7s, ↓al_7s, ↓av_7s, ↓aq_7s, ↓an_l3, ↓bk_27, ↓an_t hc0, ↓an_rv hc0, ↓r1_e hc1, ↓av_0e hc1, ↓av_1e hc1, ↓av_2e hc1, ↓av_3e hc1, ↓ar_e hc2, ↓an_t hc3, ↓an_t hc4, ↓an_t hc5, ↓an_t hc6, ↓r1_e hc7, ↓av_0e hc7, ↓av_1e hc7, ↓av_2e hc7, ↓av_3e hc7, ↓ar_e hc8, ↓an_t hc9, ↓an_t hc10, ↓an_t hc11]
  rw [oW_some] at hs
  exact hs
set_option maxHeartbeats 4000000 in
set_option maxRecDepth 100000 in
theorem rl_27_46 {C : px_C} (hn : px_nd (px_tb C)) {h : Nat} (hh : 130 ≤ h) (hC : px_ok C pn_i27 h) {k : Option px_V → px_M → Prop} {x0 : Nat} {x1 : Int32} {σ : px_M} (hs : oW (f_27_46 (px_tb C) σ x0 x1) (fun τ => k none τ)) : ∀ (z2 : Option px_V), px_W C k 46 [some (.inr (.inr (some x0))), some (.inl x1), z2] [] σ := by
  intro z2
  refine px_runH (h - 1) ck_27 [(26, Sg_26 (f_26 (px_tb C) 60))] [(79, kp_27_79 (fun y0 y1 y2 τ => oW (f_27_79 (px_tb C) τ y0 y1 y2) (fun τ => k none τ)))] 80 3 none rfl rfl hC (px_sp1 (mf_26 hn (by omega)) px_nosp) (by omega) (px_cut1 (kq_27_79 (fun y0 y1 y2 τ hq => by exact rl_27_79 hn (by omega) hC  hq)) px_nocut) (fun G Jf hG hJf => ?_)
  unfold f_27_46 at hs
  obtain ⟨hc0, hs⟩ := oW_gx hs
  obtain ⟨n1, hc1, hs⟩ := oW_bx hs
  obtain ⟨t2, l3, hc2, hs⟩ := oW_ax hs
  obtain ⟨hc3, hs⟩ := oW_gx hs
  obtain ⟨hc4, hs⟩ := oW_gx hs
  obtain ⟨q4, hc5, hs⟩ := oW_bx hs
  by_cases hc6 : ((q4).1 x0 11) = nI 0
  · replace hs := oW_t hs hc6
    obtain ⟨n5, hc7, hs⟩ := oW_bx hs
    obtain ⟨t6, l7, hc8, hs⟩ := oW_ax hs
    obtain ⟨hc9, hs⟩ := oW_gx hs
    obtain ⟨hc10, hs⟩ := oW_gx hs
    simp only [↓hG, ↓hJf, ↓px_vc, ↓px_ex, ↓px_jp, ↓px_gi, ↓px_gl, ↓px_gr, ↓px_s1, ↓px_s2, ↓px_nl, ↓px_i1, ↓px_l1, ↓r1_s, ↓px_q1, ↓px_i2, ↓px_l2, ↓px_il, ↓px_d0, ↓px_d1, ↓px_d2, ↓px_pop, ↓px_sp, ↓px_rd, ↓px_rf, ↓pn_xf, ↓px_pt, ↓px_sw, ↓pn_SW, ↓px_ma, ↓reduceIte, Nat.reduceEqDiff, Nat.reduceAdd, Nat.reduceSub, ↓Option.toList_some, ↓Option.toList_none, ↓List.cons_append, ↓List.nil_append, ↓kI_s, ↓kJ_s, ↓kN_s, ↓kO_s, ↓kZ_s, ↓kE_s, ↓an_rfl, ↓bt1 n00, ↓bt2 n00, ↓bf1 n10, ↓bf2 n10, ↓an_sz0, ↓an_sz1, ↓an_sz2, ↓an_sz3, ↓an_sz4, ↓an_ri, ↓an_rb0, ↓an_rb1, ↓an_b0, ↓an_b1, true_and, ↓ai_0s, ↓al_0s, ↓av_0s, ↓aq_0s, ↓ai_1s, ↓al_1s, ↓av_1s, ↓aq_1s, ↓ai_2s, ↓al_2s, ↓av_2s, ↓aq_2s, ↓ai_3s, ↓al_3s, ↓av_3s, ↓aq_3s, ↓ai_4s, ↓al_4s, ↓av_4s, ↓aq_4s, ↓ai_5s, ↓al_5s, ↓av_5s, ↓aq_5s, ↓ai_6s, ↓al_6s, ↓av_6s, ↓aq_6s, ↓ai_7s, ↓al_7s, ↓av_7s, ↓aq_7s, ↓an_l3, ↓bk_27, ↓Sg_26, ↓kp_27_79, ↓an_t hc0, ↓an_rv hc0, ↓r1_e hc1, ↓av_0e hc1, ↓av_1e hc1, ↓av_2e hc1, ↓av_3e hc1, ↓ar_e hc2, ↓an_t hc3, ↓an_t hc4, ↓oW_e hc5, ↓bt1 hc6, ↓bt2 hc6, ↓r1_e hc7, ↓av_0e hc7, ↓av_1e hc7, ↓av_2e hc7, ↓av_3e hc7, ↓ar_e hc8, ↓an_t hc9, ↓an_t hc10]
    exact hs
  · replace hs := oW_f hs hc6
    simp only [↓hG, ↓hJf, ↓px_vc, ↓px_ex, ↓px_jp, ↓px_gi, ↓px_gl, ↓px_gr, ↓px_s1, ↓px_s2, ↓px_nl, ↓px_i1, ↓px_l1, ↓r1_s, ↓px_q1, ↓px_i2, ↓px_l2, ↓px_il, ↓px_d0, ↓px_d1, ↓px_d2, ↓px_pop, ↓px_sp, ↓px_rd, ↓px_rf, ↓pn_xf, ↓px_pt, ↓px_sw, ↓pn_SW, ↓px_ma, ↓reduceIte, Nat.reduceEqDiff, Nat.reduceAdd, Nat.reduceSub, ↓Option.toList_some, ↓Option.toList_none, ↓List.cons_append, ↓List.nil_append, ↓kI_s, ↓kJ_s, ↓kN_s, ↓kO_s, ↓kZ_s, ↓kE_s, ↓an_rfl, ↓bt1 n00, ↓bt2 n00, ↓bf1 n10, ↓bf2 n10, ↓an_sz0, ↓an_sz1, ↓an_sz2, ↓an_sz3, ↓an_sz4, ↓an_ri, ↓an_rb0, ↓an_rb1, ↓an_b0, ↓an_b1, true_and, ↓ai_0s, ↓al_0s, ↓av_0s, ↓aq_0s, ↓ai_1s, ↓al_1s, ↓av_1s, ↓aq_1s, ↓ai_2s, ↓al_2s, ↓av_2s, ↓aq_2s, ↓ai_3s, ↓al_3s, ↓av_3s, ↓aq_3s, ↓ai_4s, ↓al_4s, ↓av_4s, ↓aq_4s, ↓ai_5s, ↓al_5s, ↓av_5s, ↓aq_5s, ↓ai_6s, ↓al_6s, ↓av_6s, ↓aq_6s, ↓ai_7s, ↓al_7s, ↓av_7s, ↓aq_7s, ↓an_l3, ↓bk_27, ↓Sg_26, ↓kp_27_79, ↓an_t hc0, ↓an_rv hc0, ↓r1_e hc1, ↓av_0e hc1, ↓av_1e hc1, ↓av_2e hc1, ↓av_3e hc1, ↓ar_e hc2, ↓an_t hc3, ↓an_t hc4, ↓oW_e hc5, ↓bf1 hc6, ↓bf2 hc6]
    rw [oW_some] at hs
    exact hs
set_option maxHeartbeats 4000000 in
set_option maxRecDepth 100000 in
theorem rl_27_20 {C : px_C} (hn : px_nd (px_tb C)) {h : Nat} (hh : 130 ≤ h) (hC : px_ok C pn_i27 h) {k : Option px_V → px_M → Prop} {x0 : Nat} {x1 : Int32} {σ : px_M} (hs : oW (f_27_20 (px_tb C) σ x0 x1) (fun τ => k none τ)) : ∀ (z2 : Option px_V), px_W C k 20 [some (.inr (.inr (some x0))), some (.inl x1), z2] [] σ := by
  intro z2
  refine px_runH (h - 1) ck_27 [(9, Sg_9 (f_9 (px_tb C))), (10, Sg_10 (f_10 (px_tb C))), (12, Sg_12 (f_12 (px_tb C)))] [(46, kp_27_46 (fun y0 y1 τ => oW (f_27_46 (px_tb C) τ y0 y1) (fun τ => k none τ)))] 80 3 none rfl rfl hC (px_sp1 (mf_9 hn (by omega)) (px_sp1 (mf_10 hn (by omega)) (px_sp1 (mf_12 hn (by omega)) px_nosp))) (by omega) (px_cut1 (kq_27_46 (fun y0 y1 τ hq => by exact rl_27_46 hn (by omega) hC  hq)) px_nocut) (fun G Jf hG hJf => ?_)
  unfold f_27_20 at hs
  obtain ⟨hc0, hs⟩ := oW_gx hs
  by_cases hc1 : ((σ).1 x0 11) = nI 0
  · replace hs := oW_t hs hc1
    obtain ⟨q1, hc2, hs⟩ := oW_bx hs
    obtain ⟨q2, hc3, hs⟩ := oW_bx hs
    by_cases hc4 : q2.1 = nI 0
    · replace hs := bW_t hs hc4
      obtain ⟨q3, hc5, hs⟩ := oW_bx hs
      simp only [↓hG, ↓hJf, ↓px_vc, ↓px_ex, ↓px_jp, ↓px_gi, ↓px_gl, ↓px_gr, ↓px_s1, ↓px_s2, ↓px_nl, ↓px_i1, ↓px_l1, ↓r1_s, ↓px_q1, ↓px_i2, ↓px_l2, ↓px_il, ↓px_d0, ↓px_d1, ↓px_d2, ↓px_pop, ↓px_sp, ↓px_rd, ↓px_rf, ↓pn_xf, ↓px_pt, ↓px_sw, ↓pn_SW, ↓px_ma, ↓reduceIte, Nat.reduceEqDiff, Nat.reduceAdd, Nat.reduceSub, ↓Option.toList_some, ↓Option.toList_none, ↓List.cons_append, ↓List.nil_append, ↓kI_s, ↓kJ_s, ↓kN_s, ↓kO_s, ↓kZ_s, ↓kE_s, ↓an_rfl, ↓bt1 n00, ↓bt2 n00, ↓bf1 n10, ↓bf2 n10, ↓an_sz0, ↓an_sz1, ↓an_sz2, ↓an_sz3, ↓an_sz4, ↓an_ri, ↓an_rb0, ↓an_rb1, ↓an_b0, ↓an_b1, true_and, ↓ai_0s, ↓al_0s, ↓av_0s, ↓aq_0s, ↓ai_1s, ↓al_1s, ↓av_1s, ↓aq_1s, ↓ai_2s, ↓al_2s, ↓av_2s, ↓aq_2s, ↓ai_3s, ↓al_3s, ↓av_3s, ↓aq_3s, ↓ai_4s, ↓al_4s, ↓av_4s, ↓aq_4s, ↓ai_5s, ↓al_5s, ↓av_5s, ↓aq_5s, ↓ai_6s, ↓al_6s, ↓av_6s, ↓aq_6s, ↓ai_7s, ↓al_7s, ↓av_7s, ↓aq_7s, ↓an_l3, ↓bk_27, ↓Sg_9, ↓Sg_10, ↓Sg_12, ↓kp_27_46, ↓an_t hc0, ↓an_rv hc0, ↓bt1 hc1, ↓bt2 hc1, ↓oW_e hc2, ↓oW_e hc3, ↓bt1 hc4, ↓bt2 hc4, ↓oW_e hc5]
      exact hs
    · replace hs := bW_f hs hc4
      simp only [↓hG, ↓hJf, ↓px_vc, ↓px_ex, ↓px_jp, ↓px_gi, ↓px_gl, ↓px_gr, ↓px_s1, ↓px_s2, ↓px_nl, ↓px_i1, ↓px_l1, ↓r1_s, ↓px_q1, ↓px_i2, ↓px_l2, ↓px_il, ↓px_d0, ↓px_d1, ↓px_d2, ↓px_pop, ↓px_sp, ↓px_rd, ↓px_rf, ↓pn_xf, ↓px_pt, ↓px_sw, ↓pn_SW, ↓px_ma, ↓reduceIte, Nat.reduceEqDiff, Nat.reduceAdd, Nat.reduceSub, ↓Option.toList_some, ↓Option.toList_none, ↓List.cons_append, ↓List.nil_append, ↓kI_s, ↓kJ_s, ↓kN_s, ↓kO_s, ↓kZ_s, ↓kE_s, ↓an_rfl, ↓bt1 n00, ↓bt2 n00, ↓bf1 n10, ↓bf2 n10, ↓an_sz0, ↓an_sz1, ↓an_sz2, ↓an_sz3, ↓an_sz4, ↓an_ri, ↓an_rb0, ↓an_rb1, ↓an_b0, ↓an_b1, true_and, ↓ai_0s, ↓al_0s, ↓av_0s, ↓aq_0s, ↓ai_1s, ↓al_1s, ↓av_1s, ↓aq_1s, ↓ai_2s, ↓al_2s, ↓av_2s, ↓aq_2s, ↓ai_3s, ↓al_3s, ↓av_3s, ↓aq_3s, ↓ai_4s, ↓al_4s, ↓av_4s, ↓aq_4s, ↓ai_5s, ↓al_5s, ↓av_5s, ↓aq_5s, ↓ai_6s, ↓al_6s, ↓av_6s, ↓aq_6s, ↓ai_7s, ↓al_7s, ↓av_7s, ↓aq_7s, ↓an_l3, ↓bk_27, ↓Sg_9, ↓Sg_10, ↓Sg_12, ↓kp_27_46, ↓an_t hc0, ↓an_rv hc0, ↓bt1 hc1, ↓bt2 hc1, ↓oW_e hc2, ↓oW_e hc3, ↓bf1 hc4, ↓bf2 hc4]
      exact hs
  · replace hs := oW_f hs hc1
    simp only [↓hG, ↓hJf, ↓px_vc, ↓px_ex, ↓px_jp, ↓px_gi, ↓px_gl, ↓px_gr, ↓px_s1, ↓px_s2, ↓px_nl, ↓px_i1, ↓px_l1, ↓r1_s, ↓px_q1, ↓px_i2, ↓px_l2, ↓px_il, ↓px_d0, ↓px_d1, ↓px_d2, ↓px_pop, ↓px_sp, ↓px_rd, ↓px_rf, ↓pn_xf, ↓px_pt, ↓px_sw, ↓pn_SW, ↓px_ma, ↓reduceIte, Nat.reduceEqDiff, Nat.reduceAdd, Nat.reduceSub, ↓Option.toList_some, ↓Option.toList_none, ↓List.cons_append, ↓List.nil_append, ↓kI_s, ↓kJ_s, ↓kN_s, ↓kO_s, ↓kZ_s, ↓kE_s, ↓an_rfl, ↓bt1 n00, ↓bt2 n00, ↓bf1 n10, ↓bf2 n10, ↓an_sz0, ↓an_sz1, ↓an_sz2, ↓an_sz3, ↓an_sz4, ↓an_ri, ↓an_rb0, ↓an_rb1, ↓an_b0, ↓an_b1, true_and, ↓ai_0s, ↓al_0s, ↓av_0s, ↓aq_0s, ↓ai_1s, ↓al_1s, ↓av_1s, ↓aq_1s, ↓ai_2s, ↓al_2s, ↓av_2s, ↓aq_2s, ↓ai_3s, ↓al_3s, ↓av_3s, ↓aq_3s, ↓ai_4s, ↓al_4s, ↓av_4s, ↓aq_4s, ↓ai_5s, ↓al_5s, ↓av_5s, ↓aq_5s, ↓ai_6s, ↓al_6s, ↓av_6s, ↓aq_6s, ↓ai_7s, ↓al_7s, ↓av_7s, ↓aq_7s, ↓an_l3, ↓bk_27, ↓Sg_9, ↓Sg_10, ↓Sg_12, ↓kp_27_46, ↓an_t hc0, ↓an_rv hc0, ↓bf1 hc1, ↓bf2 hc1]
    rw [oW_some] at hs
    exact hs
set_option maxHeartbeats 4000000 in
set_option maxRecDepth 100000 in
theorem mf_27 {tab : px_T} (hn : px_nd tab) {h : Nat} (hh : 130 ≤ h) : px_Ok tab pn_i27 h (Sg_27 (f_27 tab)) := by
  refine px_mth hn (by decide +kernel) (fun av σ k hS => ?_) (fun C hT hC av σ k hS => ?_)
  · obtain ⟨x0, av0, e0, h0⟩ := av_0p hS
    obtain ⟨ez, hs⟩ := h0
    subst ez
    subst e0
    exact Nat.le_of_ble_eq_true rfl
  · obtain ⟨x0, av0, e0, h0⟩ := av_0p hS
    obtain ⟨ez, hs⟩ := h0
    subst ez
    subst e0
    subst hT
    show px_W C k 0 [some (.inr (.inr (some x0))), none, none] [] σ
    refine px_runH (h - 1) ck_27 [(10, Sg_10 (f_10 (px_tb C)))] [(20, kp_27_20 (fun y0 y1 τ => oW (f_27_20 (px_tb C) τ y0 y1) (fun τ => k none τ)))] 80 3 none rfl rfl hC (px_sp1 (mf_10 hn (by omega)) px_nosp) (by omega) (px_cut1 (kq_27_20 (fun y0 y1 τ hq => by exact rl_27_20 hn (by omega) hC  hq)) px_nocut) (fun G Jf hG hJf => ?_)
    unfold f_27 at hs
    obtain ⟨hc0, hs⟩ := oW_gx hs
    obtain ⟨n1, hc1, hs⟩ := oW_bx hs
    obtain ⟨t2, l3, hc2, hs⟩ := oW_ax hs
    obtain ⟨hc3, hs⟩ := oW_gx hs
    obtain ⟨hc4, hs⟩ := oW_gx hs
    by_cases hc5 : (px_av t2 σ n1 ((nI 158)).toNatClampNeg) = (nI 6)
    · replace hs := bW_t hs hc5
      obtain ⟨q4, hc6, hs⟩ := oW_bx hs
      simp only [↓hG, ↓hJf, ↓px_vc, ↓px_ex, ↓px_jp, ↓px_gi, ↓px_gl, ↓px_gr, ↓px_s1, ↓px_s2, ↓px_nl, ↓px_i1, ↓px_l1, ↓r1_s, ↓px_q1, ↓px_i2, ↓px_l2, ↓px_il, ↓px_d0, ↓px_d1, ↓px_d2, ↓px_pop, ↓px_sp, ↓px_rd, ↓px_rf, ↓pn_xf, ↓px_pt, ↓px_sw, ↓pn_SW, ↓px_ma, ↓reduceIte, Nat.reduceEqDiff, Nat.reduceAdd, Nat.reduceSub, ↓Option.toList_some, ↓Option.toList_none, ↓List.cons_append, ↓List.nil_append, ↓kI_s, ↓kJ_s, ↓kN_s, ↓kO_s, ↓kZ_s, ↓kE_s, ↓an_rfl, ↓bt1 n00, ↓bt2 n00, ↓bf1 n10, ↓bf2 n10, ↓an_sz0, ↓an_sz1, ↓an_sz2, ↓an_sz3, ↓an_sz4, ↓an_ri, ↓an_rb0, ↓an_rb1, ↓an_b0, ↓an_b1, true_and, ↓ai_0s, ↓al_0s, ↓av_0s, ↓aq_0s, ↓ai_1s, ↓al_1s, ↓av_1s, ↓aq_1s, ↓ai_2s, ↓al_2s, ↓av_2s, ↓aq_2s, ↓ai_3s, ↓al_3s, ↓av_3s, ↓aq_3s, ↓ai_4s, ↓al_4s, ↓av_4s, ↓aq_4s, ↓ai_5s, ↓al_5s, ↓av_5s, ↓aq_5s, ↓ai_6s, ↓al_6s, ↓av_6s, ↓aq_6s, ↓ai_7s, ↓al_7s, ↓av_7s, ↓aq_7s, ↓an_l3, ↓bk_27, ↓Sg_10, ↓kp_27_20, ↓an_t hc0, ↓an_rv hc0, ↓r1_e hc1, ↓av_0e hc1, ↓av_1e hc1, ↓av_2e hc1, ↓av_3e hc1, ↓ar_e hc2, ↓an_t hc3, ↓an_t hc4, ↓bt1 hc5, ↓bt2 hc5, ↓oW_e hc6]
      exact hs
    · replace hs := bW_f hs hc5
      simp only [↓hG, ↓hJf, ↓px_vc, ↓px_ex, ↓px_jp, ↓px_gi, ↓px_gl, ↓px_gr, ↓px_s1, ↓px_s2, ↓px_nl, ↓px_i1, ↓px_l1, ↓r1_s, ↓px_q1, ↓px_i2, ↓px_l2, ↓px_il, ↓px_d0, ↓px_d1, ↓px_d2, ↓px_pop, ↓px_sp, ↓px_rd, ↓px_rf, ↓pn_xf, ↓px_pt, ↓px_sw, ↓pn_SW, ↓px_ma, ↓reduceIte, Nat.reduceEqDiff, Nat.reduceAdd, Nat.reduceSub, ↓Option.toList_some, ↓Option.toList_none, ↓List.cons_append, ↓List.nil_append, ↓kI_s, ↓kJ_s, ↓kN_s, ↓kO_s, ↓kZ_s, ↓kE_s, ↓an_rfl, ↓bt1 n00, ↓bt2 n00, ↓bf1 n10, ↓bf2 n10, ↓an_sz0, ↓an_sz1, ↓an_sz2, ↓an_sz3, ↓an_sz4, ↓an_ri, ↓an_rb0, ↓an_rb1, ↓an_b0, ↓an_b1, true_and, ↓ai_0s, ↓al_0s, ↓av_0s, ↓aq_0s, ↓ai_1s, ↓al_1s, ↓av_1s, ↓aq_1s, ↓ai_2s, ↓al_2s, ↓av_2s, ↓aq_2s, ↓ai_3s, ↓al_3s, ↓av_3s, ↓aq_3s, ↓ai_4s, ↓al_4s, ↓av_4s, ↓aq_4s, ↓ai_5s, ↓al_5s, ↓av_5s, ↓aq_5s, ↓ai_6s, ↓al_6s, ↓av_6s, ↓aq_6s, ↓ai_7s, ↓al_7s, ↓av_7s, ↓aq_7s, ↓an_l3, ↓bk_27, ↓Sg_10, ↓kp_27_20, ↓an_t hc0, ↓an_rv hc0, ↓r1_e hc1, ↓av_0e hc1, ↓av_1e hc1, ↓av_2e hc1, ↓av_3e hc1, ↓ar_e hc2, ↓an_t hc3, ↓an_t hc4, ↓bf1 hc5, ↓bf2 hc5]
      exact hs
