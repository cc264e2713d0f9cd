/-! shallow functions, printed by wip/whole/decomp.py -/
def Sg_55 (g : px_M → Nat → Option (px_M)) : px_S := fun av σ k => av_0 av (fun x0 av => av = [] ∧ oW (g σ x0) (fun τ => k none τ))
/-- NoThreeModel.laysHeld()V -/
noncomputable def F_55_2 (tab : px_T) (x0 : Nat) (x1 : Int32) (σ : px_M) : Option ((Int32 × px_M) ⊕ (px_M)) := gd (px_obj (px_lay tab x0) 0) ((((σ).2.2 x0 1)).bind fun n1 => oA (px_lay tab n1) fun t2 l3 => gd (t2 = 0 ∨ t2 = 11) (gd (vp_in (nI 1) l3) (if (px_av t2 σ n1 ((nI 1)).toNatClampNeg) ≤ x1 then (some (.inr (σ))) else ((f_54 tab σ x0 x1).bind fun q4 => (((σ).2.2 x0 19)).bind fun n5 => oA (px_lay tab n5) fun t6 l7 => gd (t6 = 0) (gd (vp_in x1 l7) (some (.inl (((x1 + (nI 1)), (px_wi q4.2 n5 (x1).toNatClampNeg q4.1))))))))))
noncomputable def f_55_2 (tab : px_T) (x0 : Nat) (x1 : Int32) (σ : px_M) : Option (px_M) := lpO (fun s : Int32 × px_M => F_55_2 tab x0 s.1 s.2) (x1, σ)
theorem f_55_2_eq (tab : px_T) (x0 : Nat) (x1 : Int32) (σ : px_M) : f_55_2 tab x0 x1 σ = (F_55_2 tab x0 x1 σ).bind (Sum.elim (fun s => f_55_2 tab x0 s.1 s.2) some) := lpO_eq _ _
noncomputable def f_55 (tab : px_T) (σ : px_M) (x0 : Nat) : Option (px_M) := f_55_2 tab x0 ((nI 0)) σ
def kp_55_2 (Q : Nat → Int32 → px_M → Prop) : px_P := fun ls st τ => st = [] ∧ kN ls (fun x0 ls => kI ls (fun x1 ls => kE ls (Q x0 x1 τ)))
theorem kq_55_2 {C : px_C} {k : Option px_V → px_M → Prop} {Q : Nat → Int32 → px_M → Prop} (H : ∀ (x0 : Nat) (x1 : Int32) (τ : px_M), Q x0 x1 τ → px_W C k 2 [some (.inr (.inr (some x0))), some (.inl x1)] [] τ) : ∀ ls st τ, kp_55_2 Q ls st τ → px_W C k 2 ls st τ := by
  intro ls st τ hz
  obtain ⟨ez, h0⟩ := hz
  obtain ⟨x0, l0, e0, h1⟩ := kN_sp h0
  obtain ⟨x1, l1, e1, h2⟩ := kI_sp h1
  obtain ⟨ey, hy⟩ := kE_sp h2
  subst ez
  subst ey
  subst e1
  subst e0
  exact H x0 x1 τ hy
set_option maxHeartbeats 4000000 in
set_option maxRecDepth 100000 in
theorem rl_55_2 {C : px_C} (hn : px_nd (px_tb C)) {h : Nat} (hh : 31 ≤ h) (hC : px_ok C pn_i55 h) {k : Option px_V → px_M → Prop} {x0 : Nat} : ∀ s : Int32 × px_M, oW (f_55_2 (px_tb C) x0 s.1 s.2) (fun τ => k none τ) → (fun s : Int32 × px_M => px_W C k 2 [some (.inr (.inr (some x0))), some (.inl s.1)] [] s.2) s := by
  intro s h0
  refine lpO_sound (P := (fun s : Int32 × px_M => px_W C k 2 [some (.inr (.inr (some x0))), some (.inl s.1)] [] s.2)) (fun s hs => ?_) h0
  obtain ⟨x1, σ⟩ := s
  refine px_runH (h - 1) ck_55 [(54, Sg_54 (f_54 (px_tb C)))] [(2, kp_55_2 (fun y0 y1 τ => y0 = x0 ∧ (fun s : Int32 × px_M => px_W C k 2 [some (.inr (.inr (some x0))), some (.inl s.1)] [] s.2) (y1, τ)))] 80 2 none rfl rfl hC (px_sp1 (mf_54 hn (by omega)) px_nosp) (by omega) (px_cut1 (kq_55_2 (fun y0 y1 τ hq => by obtain ⟨rfl, hq⟩ := hq; exact hq)) px_nocut) (fun G Jf hG hJf => ?_)
  replace hs : oW (F_55_2 (px_tb C) x0 x1 σ) _ := hs
  unfold F_55_2 at hs
  obtain ⟨hc0, hs⟩ := oW_gx hs
  obtain ⟨n1, hc1, hs⟩ := oW_bx hs
  obtain ⟨t2, l3, hc2, hs⟩ := oW_ax hs
  obtain ⟨hc3, hs⟩ := oW_gx hs
  obtain ⟨hc4, hs⟩ := oW_gx hs
  by_cases hc5 : (px_av t2 σ n1 ((nI 1)).toNatClampNeg) ≤ x1
  · replace hs := oW_t hs hc5
    simp only [↓hG, ↓hJf, ↓px_vc, ↓px_ex, ↓px_jp, ↓px_gi, ↓px_gl, ↓px_gr, ↓px_s1, ↓px_s2, ↓px_nl, ↓px_i1, ↓px_l1, ↓r1_s, ↓px_q1, ↓px_i2, ↓px_l2, ↓px_il, ↓px_d0, ↓px_d1, ↓px_d2, ↓px_pop, ↓px_sp, ↓px_rd, ↓px_rf, ↓pn_xf, ↓px_pt, ↓px_sw, ↓pn_SW, ↓px_ma, ↓reduceIte, Nat.reduceEqDiff, Nat.reduceAdd, Nat.reduceSub, ↓Option.toList_some, ↓Option.toList_none, ↓List.cons_append, ↓List.nil_append, ↓kI_s, ↓kJ_s, ↓kN_s, ↓kO_s, ↓kZ_s, ↓kE_s, ↓an_rfl, ↓bt1 n00, ↓bt2 n00, ↓bf1 n10, ↓bf2 n10, ↓an_sz0, ↓an_sz1, ↓an_sz2, ↓an_sz3, ↓an_sz4, ↓an_ri, ↓an_rb0, ↓an_rb1, ↓an_b0, ↓an_b1, true_and, ↓ai_0s, ↓al_0s, ↓av_0s, ↓aq_0s, ↓ai_1s, ↓al_1s, ↓av_1s, ↓aq_1s, ↓ai_2s, ↓al_2s, ↓av_2s, ↓aq_2s, ↓ai_3s, ↓al_3s, ↓av_3s, ↓aq_3s, ↓ai_4s, ↓al_4s, ↓av_4s, ↓aq_4s, ↓ai_5s, ↓al_5s, ↓av_5s, ↓aq_5s, ↓ai_6s, ↓al_6s, ↓av_6s, ↓aq_6s, ↓ai_7s, ↓al_7s, ↓av_7s, ↓aq_7s, ↓an_l2, ↓bk_55, ↓Sg_54, ↓kp_55_2, ↓an_t hc0, ↓an_rv hc0, ↓r1_e hc1, ↓av_0e hc1, ↓av_1e hc1, ↓av_2e hc1, ↓av_3e hc1, ↓ar_e hc2, ↓an_t hc3, ↓an_t hc4, ↓bt1 hc5, ↓bt2 hc5]
    rw [oW_some] at hs
    exact hs
  · replace hs := oW_f hs hc5
    obtain ⟨q4, hc6, hs⟩ := oW_bx hs
    obtain ⟨n5, hc7, hs⟩ := oW_bx hs
    obtain ⟨t6, l7, hc8, hs⟩ := oW_ax hs
    obtain ⟨hc9, hs⟩ := oW_gx hs
    obtain ⟨hc10, hs⟩ := oW_gx hs
    simp only [↓hG, ↓hJf, ↓px_vc, ↓px_ex, ↓px_jp, ↓px_gi, ↓px_gl, ↓px_gr, ↓px_s1, ↓px_s2, ↓px_nl, ↓px_i1, ↓px_l1, ↓r1_s, ↓px_q1, ↓px_i2, ↓px_l2, ↓px_il, ↓px_d0, ↓px_d1, ↓px_d2, ↓px_pop, ↓px_sp, ↓px_rd, ↓px_rf, ↓pn_xf, ↓px_pt, ↓px_sw, ↓pn_SW, ↓px_ma, ↓reduceIte, Nat.reduceEqDiff, Nat.reduceAdd, Nat.reduceSub, ↓Option.toList_some, ↓Option.toList_none, ↓List.cons_append, ↓List.nil_append, ↓kI_s, ↓kJ_s, ↓kN_s, ↓kO_s, ↓kZ_s, ↓kE_s, ↓an_rfl, ↓bt1 n00, ↓bt2 n00, ↓bf1 n10, ↓bf2 n10, ↓an_sz0, ↓an_sz1, ↓an_sz2, ↓an_sz3, ↓an_sz4, ↓an_ri, ↓an_rb0, ↓an_rb1, ↓an_b0, ↓an_b1, true_and, ↓ai_0s, ↓al_0s, ↓av_0s, ↓aq_0s, ↓ai_1s, ↓al_1s, ↓av_1s, ↓aq_1s, ↓ai_2s, ↓al_2s, ↓av_2s, ↓aq_2s, ↓ai_3s, ↓al_3s, ↓av_3s, ↓aq_3s, ↓ai_4s, ↓al_4s, ↓av_4s, ↓aq_4s, ↓ai_5s, ↓al_5s, ↓av_5s, ↓aq_5s, ↓ai_6s, ↓al_6s, ↓av_6s, ↓aq_6s, ↓ai_7s, ↓al_7s, ↓av_7s, ↓aq_7s, ↓an_l2, ↓bk_55, ↓Sg_54, ↓kp_55_2, ↓an_t hc0, ↓an_rv hc0, ↓r1_e hc1, ↓av_0e hc1, ↓av_1e hc1, ↓av_2e hc1, ↓av_3e hc1, ↓ar_e hc2, ↓an_t hc3, ↓an_t hc4, ↓bf1 hc5, ↓bf2 hc5, ↓oW_e hc6, ↓r1_e hc7, ↓av_0e hc7, ↓av_1e hc7, ↓av_2e hc7, ↓av_3e hc7, ↓ar_e hc8, ↓an_t hc9, ↓an_t hc10]
    rw [oW_some] at hs
    exact hs
set_option maxHeartbeats 4000000 in
set_option maxRecDepth 100000 in
theorem mf_55 {tab : px_T} (hn : px_nd tab) {h : Nat} (hh : 31 ≤ h) : px_Ok tab pn_i55 h (Sg_55 (f_55 tab)) := by
  refine px_mth hn (by decide +kernel) (fun av σ k hS => ?_) (fun C hT hC av σ k hS => ?_)
  · obtain ⟨x0, av0, e0, h0⟩ := av_0p hS
    obtain ⟨ez, hs⟩ := h0
    subst ez
    subst e0
    exact Nat.le_of_ble_eq_true rfl
  · obtain ⟨x0, av0, e0, h0⟩ := av_0p hS
    obtain ⟨ez, hs⟩ := h0
    subst ez
    subst e0
    subst hT
    show px_W C k 0 [some (.inr (.inr (some x0))), none] [] σ
    refine px_runH (h - 1) ck_55 [] [(2, kp_55_2 (fun y0 y1 τ => oW (f_55_2 (px_tb C) y0 y1 τ) (fun τ => k none τ)))] 80 2 none rfl rfl hC px_nosp (by omega) (px_cut1 (kq_55_2 (fun y0 y1 τ hq => by exact rl_55_2 hn (by omega) hC (y1, τ) hq)) px_nocut) (fun G Jf hG hJf => ?_)
    unfold f_55 at hs
    simp only [↓hG, ↓hJf, ↓px_vc, ↓px_ex, ↓px_jp, ↓px_gi, ↓px_gl, ↓px_gr, ↓px_s1, ↓px_s2, ↓px_nl, ↓px_i1, ↓px_l1, ↓r1_s, ↓px_q1, ↓px_i2, ↓px_l2, ↓px_il, ↓px_d0, ↓px_d1, ↓px_d2, ↓px_pop, ↓px_sp, ↓px_rd, ↓px_rf, ↓pn_xf, ↓px_pt, ↓px_sw, ↓pn_SW, ↓px_ma, ↓reduceIte, Nat.reduceEqDiff, Nat.reduceAdd, Nat.reduceSub, ↓Option.toList_some, ↓Option.toList_none, ↓List.cons_append, ↓List.nil_append, ↓kI_s, ↓kJ_s, ↓kN_s, ↓kO_s, ↓kZ_s, ↓kE_s, ↓an_rfl, ↓bt1 n00, ↓bt2 n00, ↓bf1 n10, ↓bf2 n10, ↓an_sz0, ↓an_sz1, ↓an_sz2, ↓an_sz3, ↓an_sz4, ↓an_ri, ↓an_rb0, ↓an_rb1, ↓an_b0, ↓an_b1, true_and, ↓ai_0s, ↓al_0s, ↓av_0s, ↓aq_0s, ↓ai_1s, ↓al_1s, ↓av_1s, ↓aq_1s, ↓ai_2s, ↓al_2s, ↓av_2s, ↓aq_2s, ↓ai_3s, ↓al_3s, ↓av_3s, ↓aq_3s, ↓ai_4s, ↓al_4s, ↓av_4s, ↓aq_4s, ↓ai_5s, ↓al_5s, ↓av_5s, ↓aq_5s, ↓ai_6s, ↓al_6s, ↓av_6s, ↓aq_6s, ↓ai_7s, ↓al_7s, ↓av_7s, ↓aq_7s, ↓an_l2, ↓bk_55, ↓kp_55_2]
    exact hs
def Sg_56 (g : px_M → Nat → Int32 → Option (Int32 × px_M)) : px_S := fun av σ k => av_0 av (fun x0 av => ai_1 av (fun x1 av => av = [] ∧ oW (g σ x0 x1) (fun q => k (some (.inl q.1)) q.2)))
/-- NoThreeModel.stillHold(I)Z -/
noncomputable def f_56_39 (tab : px_T) (σ : px_M) (x0 : Nat) (x1 : Int32) (x2 : Int32) (x3 : Int32) : Option ((Int32 × px_M) ⊕ (Int32 × px_M)) := gd (px_obj (px_lay tab x0) 0) ((f_54 tab σ x0 x2).bind fun q1 => if (q1.1 &&& x3) = x3 then (some (.inl (((x2 + (nI 1)), q1.2)))) else (some (.inr (((nI 0), q1.2)))))
noncomputable def F_56_2 (tab : px_T) (x0 : Nat) (x1 : Int32) (x2 : Int32) (σ : px_M) : Option ((Int32 × px_M) ⊕ (Int32 × px_M)) := gd (px_obj (px_lay tab x0) 0) ((((σ).2.2 x0 1)).bind fun n1 => oA (px_lay tab n1) fun t2 l3 => gd (t2 = 0 ∨ t2 = 11) (gd (vp_in (nI 1) l3) (if (px_av t2 σ n1 ((nI 1)).toNatClampNeg) ≤ x2 then (some (.inr (((nI 1), σ)))) else (if x1 ≤ x2 then (gd (vp_in (nI 158) l3) (f_56_39 tab σ x0 x1 x2 ((((nI 1) <<< ((px_av t2 σ n1 ((nI 158)).toNatClampNeg) &&& 31)) - (nI 1))))) else ((((σ).2.2 x0 19)).bind fun n4 => oA (px_lay tab n4) fun t5 l6 => gd (t5 = 0 ∨ t5 = 11) (gd (vp_in x2 l6) (f_56_39 tab σ x0 x1 x2 ((px_av t5 σ n4 (x2).toNatClampNeg)))))))))
noncomputable def f_56_2 (tab : px_T) (x0 : Nat) (x1 : Int32) (x2 : Int32) (σ : px_M) : Option (Int32 × px_M) := lpO (fun s : Int32 × px_M => F_56_2 tab x0 x1 s.1 s.2) (x2, σ)
theorem f_56_2_eq (tab : px_T) (x0 : Nat) (x1 : Int32) (x2 : Int32) (σ : px_M) : f_56_2 tab x0 x1 x2 σ = (F_56_2 tab x0 x1 x2 σ).bind (Sum.elim (fun s => f_56_2 tab x0 x1 s.1 s.2) some) := lpO_eq _ _
noncomputable def f_56 (tab : px_T) (σ : px_M) (x0 : Nat) (x1 : Int32) : Option (Int32 × px_M) := f_56_2 tab x0 x1 ((nI 0)) σ
def kp_56_39 (Q : Nat → Int32 → Int32 → Int32 → px_M → Prop) : px_P := fun ls st τ => st = [] ∧ kN ls (fun x0 ls => kI ls (fun x1 ls => kI ls (fun x2 ls => kI ls (fun x3 ls => kE ls (Q x0 x1 x2 x3 τ)))))
theorem kq_56_39 {C : px_C} {k : Option px_V → px_M → Prop} {Q : Nat → Int32 → Int32 → Int32 → px_M → Prop} (H : ∀ (x0 : Nat) (x1 : Int32) (x2 : Int32) (x3 : Int32) (τ : px_M), Q x0 x1 x2 x3 τ → px_W C k 39 [some (.inr (.inr (some x0))), some (.inl x1), some (.inl x2), some (.inl x3)] [] τ) : ∀ ls st τ, kp_56_39 Q ls st τ → px_W C k 39 ls st τ := by
  intro ls st τ hz
  obtain ⟨ez, h0⟩ := hz
  obtain ⟨x0, l0, e0, h1⟩ := kN_sp h0
  obtain ⟨x1, l1, e1, h2⟩ := kI_sp h1
  obtain ⟨x2, l2, e2, h3⟩ := kI_sp h2
  obtain ⟨x3, l3, e3, h4⟩ := kI_sp h3
  obtain ⟨ey, hy⟩ := kE_sp h4
  subst ez
  subst ey
  subst e3
  subst e2
  subst e1
  subst e0
  exact H x0 x1 x2 x3 τ hy
def kp_56_2 (Q : Nat → Int32 → Int32 → px_M → Prop) : px_P := fun ls st τ => st = [] ∧ kN ls (fun x0 ls => kI ls (fun x1 ls => kI ls (fun x2 ls => kZ ls (fun ls => kE ls (Q x0 x1 x2 τ)))))
theorem kq_56_2 {C : px_C} {k : Option px_V → px_M → Prop} {Q : Nat → Int32 → Int32 → px_M → Prop} (H : ∀ (x0 : Nat) (x1 : Int32) (x2 : Int32) (τ : px_M), Q x0 x1 x2 τ → ∀ (z3 : Option px_V), px_W C k 2 [some (.inr (.inr (some x0))), some (.inl x1), some (.inl x2), z3] [] τ) : ∀ ls st τ, kp_56_2 Q ls st τ → px_W C k 2 ls st τ := by
  intro ls st τ hz
  obtain ⟨ez, h0⟩ := hz
  obtain ⟨x0, l0, e0, h1⟩ := kN_sp h0
  obtain ⟨x1, l1, e1, h2⟩ := kI_sp h1
  obtain ⟨x2, l2, e2, h3⟩ := kI_sp h2
  obtain ⟨z3, l3, e3, h4⟩ := kZ_sp h3
  obtain ⟨ey, hy⟩ := kE_sp h4
  subst ez
  subst ey
  subst e3
  subst e2
  subst e1
  subst e0
  exact H x0 x1 x2 τ hy z3
set_option maxHeartbeats 4000000 in
set_option maxRecDepth 100000 in
theorem rl_56_39 {C : px_C} (hn : px_nd (px_tb C)) {h : Nat} (hh : 31 ≤ h) (hC : px_ok C pn_i56 h) {k : Option px_V → px_M → Prop} {x0 : Nat} {x1 : Int32} {x2 : Int32} {x3 : Int32} {σ : px_M} (hs : oW (f_56_39 (px_tb C) σ x0 x1 x2 x3) (Sum.elim (fun s : Int32 × px_M => ∀ (z3 : Option px_V), px_W C k 2 [some (.inr (.inr (some x0))), some (.inl x1), some (.inl s.1), z3] [] s.2) (fun q => k (some (.inl q.1)) q.2))) : px_W C k 39 [some (.inr (.inr (some x0))), some (.inl x1), some (.inl x2), some (.inl x3)] [] σ := by
  refine px_runH (h - 1) ck_56 [(54, Sg_54 (f_54 (px_tb C)))] [(2, kp_56_2 (fun y0 y1 y2 τ => y0 = x0 ∧ y1 = x1 ∧ (fun s : Int32 × px_M => ∀ (z3 : Option px_V), px_W C k 2 [some (.inr (.inr (some x0))), some (.inl x1), some (.inl s.1), z3] [] s.2) (y2, τ)))] 80 4 (some .boolean) rfl rfl hC (px_sp1 (mf_54 hn (by omega)) px_nosp) (by omega) (px_cut1 (kq_56_2 (fun y0 y1 y2 τ hq => by obtain ⟨rfl, rfl, hq⟩ := hq; exact hq)) px_nocut) (fun G Jf hG hJf => ?_)
  unfold f_56_39 at hs
  obtain ⟨hc0, hs⟩ := oW_gx hs
  obtain ⟨q1, hc1, hs⟩ := oW_bx hs
  by_cases hc2 : (q1.1 &&& x3) = x3
  · replace hs := oW_t hs hc2
    simp only [↓hG, ↓hJf, ↓px_vc, ↓px_ex, ↓px_jp, ↓px_gi, ↓px_gl, ↓px_gr, ↓px_s1, ↓px_s2, ↓px_nl, ↓px_i1, ↓px_l1, ↓r1_s, ↓px_q1, ↓px_i2, ↓px_l2, ↓px_il, ↓px_d0, ↓px_d1, ↓px_d2, ↓px_pop, ↓px_sp, ↓px_rd, ↓px_rf, ↓pn_xf, ↓px_pt, ↓px_sw, ↓pn_SW, ↓px_ma, ↓reduceIte, Nat.reduceEqDiff, Nat.reduceAdd, Nat.reduceSub, ↓Option.toList_some, ↓Option.toList_none, ↓List.cons_append, ↓List.nil_append, ↓kI_s, ↓kJ_s, ↓kN_s, ↓kO_s, ↓kZ_s, ↓kE_s, ↓an_rfl, ↓bt1 n00, ↓bt2 n00, ↓bf1 n10, ↓bf2 n10, ↓an_sz0, ↓an_sz1, ↓an_sz2, ↓an_sz3, ↓an_sz4, ↓an_ri, ↓an_rb0, ↓an_rb1, ↓an_b0, ↓an_b1, true_and, ↓ai_0s, ↓al_0s, ↓av_0s, ↓aq_0s, ↓ai_1s, ↓al_1s, ↓av_1s, ↓aq_1s, ↓ai_2s, ↓al_2s, ↓av_2s, ↓aq_2s, ↓ai_3s, ↓al_3s, ↓av_3s, ↓aq_3s, ↓ai_4s, ↓al_4s, ↓av_4s, ↓aq_4s, ↓ai_5s, ↓al_5s, ↓av_5s, ↓aq_5s, ↓ai_6s, ↓al_6s, ↓av_6s, ↓aq_6s, ↓ai_7s, ↓al_7s, ↓av_7s, ↓aq_7s, ↓an_l4, ↓bk_56, ↓Sg_54, ↓kp_56_2, ↓an_t hc0, ↓an_rv hc0, ↓oW_e hc1, ↓bt1 hc2, ↓bt2 hc2]
    rw [oW_some] at hs
    exact hs
  · replace hs := oW_f hs hc2
    simp only [↓hG, ↓hJf, ↓px_vc, ↓px_ex, ↓px_jp, ↓px_gi, ↓px_gl, ↓px_gr, ↓px_s1, ↓px_s2, ↓px_nl, ↓px_i1, ↓px_l1, ↓r1_s, ↓px_q1, ↓px_i2, ↓px_l2, ↓px_il, ↓px_d0, ↓px_d1, ↓px_d2, ↓px_pop, ↓px_sp, ↓px_rd, ↓px_rf, ↓pn_xf, ↓px_pt, ↓px_sw, ↓pn_SW, ↓px_ma, ↓reduceIte, Nat.reduceEqDiff, Nat.reduceAdd, Nat.reduceSub, ↓Option.toList_some, ↓Option.toList_none, ↓List.cons_append, ↓List.nil_append, ↓kI_s, ↓kJ_s, ↓kN_s, ↓kO_s, ↓kZ_s, ↓kE_s, ↓an_rfl, ↓bt1 n00, ↓bt2 n00, ↓bf1 n10, ↓bf2 n10, ↓an_sz0, ↓an_sz1, ↓an_sz2, ↓an_sz3, ↓an_sz4, ↓an_ri, ↓an_rb0, ↓an_rb1, ↓an_b0, ↓an_b1, true_and, ↓ai_0s, ↓al_0s, ↓av_0s, ↓aq_0s, ↓ai_1s, ↓al_1s, ↓av_1s, ↓aq_1s, ↓ai_2s, ↓al_2s, ↓av_2s, ↓aq_2s, ↓ai_3s, ↓al_3s, ↓av_3s, ↓aq_3s, ↓ai_4s, ↓al_4s, ↓av_4s, ↓aq_4s, ↓ai_5s, ↓al_5s, ↓av_5s, ↓aq_5s, ↓ai_6s, ↓al_6s, ↓av_6s, ↓aq_6s, ↓ai_7s, ↓al_7s, ↓av_7s, ↓aq_7s, ↓an_l4, ↓bk_56, ↓Sg_54, ↓kp_56_2, ↓an_t hc0, ↓an_rv hc0, ↓oW_e hc1, ↓bf1 hc2, ↓bf2 hc2]
    rw [oW_some] at hs
    exact hs
set_option maxHeartbeats 4000000 in
set_option maxRecDepth 100000 in
theorem rl_56_2 {C : px_C} (hn : px_nd (px_tb C)) {h : Nat} (hh : 31 ≤ h) (hC : px_ok C pn_i56 h) {k : Option px_V → px_M → Prop} {x0 : Nat} {x1 : Int32} : ∀ s : Int32 × px_M, oW (f_56_2 (px_tb C) x0 x1 s.1 s.2) (fun q => k (some (.inl q.1)) q.2) → (fun s : Int32 × px_M => ∀ (z3 : Option px_V), px_W C k 2 [some (.inr (.inr (some x0))), some (.inl x1), some (.inl s.1), z3] [] s.2) s := by
  intro s h0
  refine lpO_sound (P := (fun s : Int32 × px_M => ∀ (z3 : Option px_V), px_W C k 2 [some (.inr (.inr (some x0))), some (.inl x1), some (.inl s.1), z3] [] s.2)) (fun s hs => ?_) h0
  obtain ⟨x2, σ⟩ := s
  intro z3
  refine px_runH (h - 1) ck_56 [] [(39, kp_56_39 (fun y0 y1 y2 y3 τ => y0 = x0 ∧ y1 = x1 ∧ oW (f_56_39 (px_tb C) τ y0 y1 y2 y3) (Sum.elim (fun s : Int32 × px_M => ∀ (z3 : Option px_V), px_W C k 2 [some (.inr (.inr (some x0))), some (.inl x1), some (.inl s.1), z3] [] s.2) (fun q => k (some (.inl q.1)) q.2))))] 80 4 (some .boolean) rfl rfl hC px_nosp (by omega) (px_cut1 (kq_56_39 (fun y0 y1 y2 y3 τ hq => by obtain ⟨rfl, rfl, hq⟩ := hq; exact rl_56_39 hn (by omega) hC  hq)) px_nocut) (fun G Jf hG hJf => ?_)
  replace hs : oW (F_56_2 (px_tb C) x0 x1 x2 σ) _ := hs
  unfold F_56_2 at hs
  obtain ⟨hc0, hs⟩ := oW_gx hs
  obtain ⟨n1, hc1, hs⟩ := oW_bx hs
  obtain ⟨t2, l3, hc2, hs⟩ := oW_ax hs
  obtain ⟨hc3, hs⟩ := oW_gx hs
  obtain ⟨hc4, hs⟩ := oW_gx hs
  by_cases hc5 : (px_av t2 σ n1 ((nI 1)).toNatClampNeg) ≤ x2
  · replace hs := oW_t hs hc5
    simp only [↓hG, ↓hJf, ↓px_vc, ↓px_ex, ↓px_jp, ↓px_gi, ↓px_gl, ↓px_gr, ↓px_s1, ↓px_s2, ↓px_nl, ↓px_i1, ↓px_l1, ↓r1_s, ↓px_q1, ↓px_i2, ↓px_l2, ↓px_il, ↓px_d0, ↓px_d1, ↓px_d2, ↓px_pop, ↓px_sp, ↓px_rd, ↓px_rf, ↓pn_xf, ↓px_pt, ↓px_sw, ↓pn_SW, ↓px_ma, ↓reduceIte, Nat.reduceEqDiff, Nat.reduceAdd, Nat.reduceSub, ↓Option.toList_some, ↓Option.toList_none, ↓List.cons_append, ↓List.nil_append, ↓kI_s, ↓kJ_s, ↓kN_s, ↓kO_s, ↓kZ_s, ↓kE_s, ↓an_rfl, ↓bt1 n00, ↓bt2 n00, ↓bf1 n10, ↓bf2 n10, ↓an_sz0, ↓an_sz1, ↓an_sz2, ↓an_sz3, ↓an_sz4, ↓an_ri, ↓an_rb0, ↓an_rb1, ↓an_b0, ↓an_b1, true_and, ↓ai_0s, ↓al_0s, ↓av_0s, ↓aq_0s, ↓ai_1s, ↓al_1s, ↓av_1s, ↓aq_1s, ↓ai_2s, ↓al_2s, ↓av_2s, ↓aq_2s, ↓ai_3s, ↓al_3s, ↓av_3s, ↓aq_3s, ↓ai_4s, ↓al_4s, ↓av_4s, ↓aq_4s, ↓ai_5s, ↓al_5s, ↓av_5s, ↓aq_5s, ↓ai_6s, ↓al_6s, ↓av_6s, ↓aq_6s, ↓ai_7s, ↓al_7s, ↓av_7s, ↓aq_7s, ↓an_l4, ↓bk_56, ↓kp_56_39, ↓an_t hc0, ↓an_rv hc0, ↓r1_e hc1, ↓av_0e hc1, ↓av_1e hc1, ↓av_2e hc1, ↓av_3e hc1, ↓ar_e hc2, ↓an_t hc3, ↓an_t hc4, ↓bt1 hc5, ↓bt2 hc5]
    rw [oW_some] at hs
    exact hs
  · replace hs := oW_f hs hc5
    by_cases hc6 : x1 ≤ x2
    · replace hs := oW_t hs hc6
      obtain ⟨hc7, hs⟩ := oW_gx hs
      simp only [↓hG, ↓hJf, ↓px_vc, ↓px_ex, ↓px_jp, ↓px_gi, ↓px_gl, ↓px_gr, ↓px_s1, ↓px_s2, ↓px_nl, ↓px_i1, ↓px_l1, ↓r1_s, ↓px_q1, ↓px_i2, ↓px_l2, ↓px_il, ↓px_d0, ↓px_d1, ↓px_d2, ↓px_pop, ↓px_sp, ↓px_rd, ↓px_rf, ↓pn_xf, ↓px_pt, ↓px_sw, ↓pn_SW, ↓px_ma, ↓reduceIte, Nat.reduceEqDiff, Nat.reduceAdd, Nat.reduceSub, ↓Option.toList_some, ↓Option.toList_none, ↓List.cons_append, ↓List.nil_append, ↓kI_s, ↓kJ_s, ↓kN_s, ↓kO_s, ↓kZ_s, ↓kE_s, ↓an_rfl, ↓bt1 n00, ↓bt2 n00, ↓bf1 n10, ↓bf2 n10, ↓an_sz0, ↓an_sz1, ↓an_sz2, ↓an_sz3, ↓an_sz4, ↓an_ri, ↓an_rb0, ↓an_rb1, ↓an_b0, ↓an_b1, true_and, ↓ai_0s, ↓al_0s, ↓av_0s, ↓aq_0s, ↓ai_1s, ↓al_1s, ↓av_1s, ↓aq_1s, ↓ai_2s, ↓al_2s, ↓av_2s, ↓aq_2s, ↓ai_3s, ↓al_3s, ↓av_3s, ↓aq_3s, ↓ai_4s, ↓al_4s, ↓av_4s, ↓aq_4s, ↓ai_5s, ↓al_5s, ↓av_5s, ↓aq_5s, ↓ai_6s, ↓al_6s, ↓av_6s, ↓aq_6s, ↓ai_7s, ↓al_7s, ↓av_7s, ↓aq_7s, ↓an_l4, ↓bk_56, ↓kp_56_39, ↓an_t hc0, ↓an_rv hc0, ↓r1_e hc1, ↓av_0e hc1, ↓av_1e hc1, ↓av_2e hc1, ↓av_3e hc1, ↓ar_e hc2, ↓an_t hc3, ↓an_t hc4, ↓bf1 hc5, ↓bf2 hc5, ↓bt1 hc6, ↓bt2 hc6, ↓an_t hc7]
      exact hs
    · replace hs := oW_f hs hc6
      obtain ⟨n4, hc7, hs⟩ := oW_bx hs
      obtain ⟨t5, l6, hc8, hs⟩ := oW_ax hs
      obtain ⟨hc9, hs⟩ := oW_gx hs
      obtain ⟨hc10, hs⟩ := oW_gx hs
      simp only [↓hG, ↓hJf, ↓px_vc, ↓px_ex, ↓px_jp, ↓px_gi, ↓px_gl, ↓px_gr, ↓px_s1, ↓px_s2, ↓px_nl, ↓px_i1, ↓px_l1, ↓r1_s, ↓px_q1, ↓px_i2, ↓px_l2, ↓px_il, ↓px_d0, ↓px_d1, ↓px_d2, ↓px_pop, ↓px_sp, ↓px_rd, ↓px_rf, ↓pn_xf, ↓px_pt, ↓px_sw, ↓pn_SW, ↓px_ma, ↓reduceIte, Nat.reduceEqDiff, Nat.reduceAdd, Nat.reduceSub, ↓Option.toList_some, ↓Option.toList_none, ↓List.cons_append, ↓List.nil_append, ↓kI_s, ↓kJ_s, ↓kN_s, ↓kO_s, ↓kZ_s, ↓kE_s, ↓an_rfl, ↓bt1 n00, ↓bt2 n00, ↓bf1 n10, ↓bf2 n10, ↓an_sz0, ↓an_sz1, ↓an_sz2, ↓an_sz3, ↓an_sz4, ↓an_ri, ↓an_rb0, ↓an_rb1, ↓an_b0, ↓an_b1, true_and, ↓ai_0s, ↓al_0s, ↓av_0s, ↓aq_0s, ↓ai_1s, ↓al_1s, ↓av_1s, ↓aq_1s, ↓ai_2s, ↓al_2s, ↓av_2s, ↓aq_2s, ↓ai_3s, ↓al_3s, ↓av_3s, ↓aq_3s, ↓ai_4s, ↓al_4s, ↓av_4s, ↓aq_4s, ↓ai_5s, ↓al_5s, ↓av_5s, ↓aq_5s, ↓ai_6s, ↓al_6s, ↓av_6s, ↓aq_6s, ↓ai_7s, ↓al_7s, ↓av_7s, ↓aq_7s, ↓an_l4, ↓bk_56, ↓kp_56_39, ↓an_t hc0, ↓an_rv hc0, ↓r1_e hc1, ↓av_0e hc1, ↓av_1e hc1, ↓av_2e hc1, ↓av_3e hc1, ↓ar_e hc2, ↓an_t hc3, ↓an_t hc4, ↓bf1 hc5, ↓bf2 hc5, ↓bf1 hc6, ↓bf2 hc6, ↓r1_e hc7, ↓av_0e hc7, ↓av_1e hc7, ↓av_2e hc7, ↓av_3e hc7, ↓ar_e hc8, ↓an_t hc9, ↓an_t hc10]
      exact hs
set_option maxHeartbeats 4000000 in
set_option maxRecDepth 100000 in
theorem mf_56 {tab : px_T} (hn : px_nd tab) {h : Nat} (hh : 31 ≤ h) : px_Ok tab pn_i56 h (Sg_56 (f_56 tab)) := by
  refine px_mth hn (by decide +kernel) (fun av σ k hS => ?_) (fun C hT hC av σ k hS => ?_)
  · obtain ⟨x0, av0, e0, h0⟩ := av_0p hS
    obtain ⟨x1, av1, e1, h1⟩ := ai_1p h0
    obtain ⟨ez, hs⟩ := h1
    subst ez
    subst e1
    subst e0
    exact Nat.le_of_ble_eq_true rfl
  · obtain ⟨x0, av0, e0, h0⟩ := av_0p hS
    obtain ⟨x1, av1, e1, h1⟩ := ai_1p h0
    obtain ⟨ez, hs⟩ := h1
    subst ez
    subst e1
    subst e0
    subst hT
    show px_W C k 0 [some (.inr (.inr (some x0))), some (.inl x1), none, none] [] σ
    refine px_runH (h - 1) ck_56 [] [(2, kp_56_2 (fun y0 y1 y2 τ => oW (f_56_2 (px_tb C) y0 y1 y2 τ) (fun q => k (some (.inl q.1)) q.2)))] 80 4 (some .boolean) rfl rfl hC px_nosp (by omega) (px_cut1 (kq_56_2 (fun y0 y1 y2 τ hq => by exact rl_56_2 hn (by omega) hC (y2, τ) hq)) px_nocut) (fun G Jf hG hJf => ?_)
    unfold f_56 at hs
    simp only [↓hG, ↓hJf, ↓px_vc, ↓px_ex, ↓px_jp, ↓px_gi, ↓px_gl, ↓px_gr, ↓px_s1, ↓px_s2, ↓px_nl, ↓px_i1, ↓px_l1, ↓r1_s, ↓px_q1, ↓px_i2, ↓px_l2, ↓px_il, ↓px_d0, ↓px_d1, ↓px_d2, ↓px_pop, ↓px_sp, ↓px_rd, ↓px_rf, ↓pn_xf, ↓px_pt, ↓px_sw, ↓pn_SW, ↓px_ma, ↓reduceIte, Nat.reduceEqDiff, Nat.reduceAdd, Nat.reduceSub, ↓Option.toList_some, ↓Option.toList_none, ↓List.cons_append, ↓List.nil_append, ↓kI_s, ↓kJ_s, ↓kN_s, ↓kO_s, ↓kZ_s, ↓kE_s, ↓an_rfl, ↓bt1 n00, ↓bt2 n00, ↓bf1 n10, ↓bf2 n10, ↓an_sz0, ↓an_sz1, ↓an_sz2, ↓an_sz3, ↓an_sz4, ↓an_ri, ↓an_rb0, ↓an_rb1, ↓an_b0, ↓an_b1, true_and, ↓ai_0s, ↓al_0s, ↓av_0s, ↓aq_0s, ↓ai_1s, ↓al_1s, ↓av_1s, ↓aq_1s, ↓ai_2s, ↓al_2s, ↓av_2s, ↓aq_2s, ↓ai_3s, ↓al_3s, ↓av_3s, ↓aq_3s, ↓ai_4s, ↓al_4s, ↓av_4s, ↓aq_4s, ↓ai_5s, ↓al_5s, ↓av_5s, ↓aq_5s, ↓ai_6s, ↓al_6s, ↓av_6s, ↓aq_6s, ↓ai_7s, ↓al_7s, ↓av_7s, ↓aq_7s, ↓an_l4, ↓bk_56, ↓kp_56_2]
    exact hs
def Sg_57 (g : px_M → Nat → Int64 → Int64 → Option (Int32 × px_M)) : px_S := fun av σ k => av_0 av (fun x0 av => al_1 av (fun x1 av => al_2 av (fun x3 av => av = [] ∧ oW (g σ x0 x1 x3) (fun q => k (some (.inl q.1)) q.2))))
/-- NoThreeModel.refusesJoin(JJ)I -/
noncomputable def f_57_115 (tab : px_T) (σ : px_M) (x0 : Nat) (x7 : Int32) : Option (Int32 × px_M) := gd (px_obj (px_lay tab x0) 0) ((((σ).2.2 x0 20)).bind fun n1 => (f_53 tab σ x0 n1).bind fun q2 => if x7 = nI 0 then (some (((nI 4), q2))) else (some (((nI 0), q2))))
noncomputable def f_57_92 (tab : px_T) (σ : px_M) (x0 : Nat) (x5 : Int32) (x6 : Int32) : Option (Int32 × px_M) := gd (px_obj (px_lay tab x0) 0) ((((σ).2.2 x0 1)).bind fun n1 => (f_15 tab σ n1 x5 x6).bind fun q2 => (((q2).2.2 x0 1)).bind fun n3 => oA (px_lay tab n3) fun t4 l5 => gd (t4 = 0 ∨ t4 = 11) (gd (vp_in (nI 1) l5) ((f_56 tab q2 x0 ((px_av t4 q2 n3 ((nI 1)).toNatClampNeg))).bind fun q6 => f_57_115 tab q6.2 x0 q6.1)))
noncomputable def f_57_67 (tab : px_T) (σ : px_M) (x0 : Nat) (x5 : Int32) (x6 : Int32) : Option (Int32 × px_M) := gd (px_obj (px_lay tab x0) 0) ((((σ).2.2 x0 1)).bind fun n1 => oA (px_lay tab n1) fun t2 l3 => gd (t2 = 0 ∨ t2 = 11) (gd (vp_in (nI 158) l3) (bn ((px_av t2 σ n1 ((nI 158)).toNatClampNeg) = nI 0) ((f_55 tab σ x0).bind fun q4 => (((q4).2.2 x0 20)).bind fun n5 => (f_52 tab q4 x0 n5).bind fun q6 => f_57_92 tab q6 x0 x5 x6) (some (((nI 0), σ))))))
noncomputable def f_57_65 (tab : px_T) (σ : px_M) : Option (Int32 × px_M) := some (((nI 3), σ))
noncomputable def f_57_49 (tab : px_T) (σ : px_M) (x0 : Nat) (x5 : Int32) (x6 : Int32) : Option (Int32 × px_M) := gd (px_obj (px_lay tab x0) 0) ((f_31 tab σ x0 x5).bind fun r1 => (f_31 tab σ x0 x6).bind fun r2 => if (r1 &&& r2) = nI 0 then (f_57_67 tab σ x0 x5 x6) else (f_57_65 tab σ))
noncomputable def f_57_47 (tab : px_T) (σ : px_M) : Option (Int32 × px_M) := some (((nI 2), σ))
noncomputable def f_57_28 (tab : px_T) (σ : px_M) (x0 : Nat) (x3 : Int64) (x5 : Int32) : Option (Int32 × px_M) := gd (px_obj (px_lay tab x0) 0) ((f_31 tab σ x0 x5).bind fun r1 => (f_14 tab σ ((r1).toInt64) ((x3).toInt32)).bind fun r2 => if r2 = nI 0 then (f_57_49 tab σ x0 x5 ((x3).toInt32)) else (f_57_47 tab σ))
noncomputable def f_57_22 (tab : px_T) (σ : px_M) : Option (Int32 × px_M) := some (((nI 1), σ))
noncomputable def f_57_16 (tab : px_T) (σ : px_M) (x0 : Nat) (x1 : Int64) (x3 : Int64) : Option (Int32 × px_M) := bn (x1 = x3) (f_57_28 tab σ x0 x3 ((x1).toInt32)) (f_57_22 tab σ)
noncomputable def f_57 (tab : px_T) (σ : px_M) (x0 : Nat) (x1 : Int64) (x3 : Int64) : Option (Int32 × px_M) := gd (px_obj (px_lay tab x0) 0) ((f_30 tab σ x0 x1).bind fun r1 => if r1 = nI 0 then (f_57_22 tab σ) else ((f_30 tab σ x0 x3).bind fun r2 => if r2 = nI 0 then (f_57_22 tab σ) else (f_57_16 tab σ x0 x1 x3)))
def kp_57_115 (Q : Nat → Int32 → px_M → Prop) : px_P := fun ls st τ => st = [] ∧ kN ls (fun x0 ls => kZ ls (fun ls => kZ ls (fun ls => kZ ls (fun ls => kZ ls (fun ls => kZ ls (fun ls => kZ ls (fun ls => kI ls (fun x7 ls => kE ls (Q x0 x7 τ)))))))))
theorem kq_57_115 {C : px_C} {k : Option px_V → px_M → Prop} {Q : Nat → Int32 → px_M → Prop} (H : ∀ (x0 : Nat) (x7 : Int32) (τ : px_M), Q x0 x7 τ → ∀ (z1 : Option px_V) (z2 : Option px_V) (z3 : Option px_V) (z4 : Option px_V) (z5 : Option px_V) (z6 : Option px_V), px_W C k 115 [some (.inr (.inr (some x0))), z1, z2, z3, z4, z5, z6, some (.inl x7)] [] τ) : ∀ ls st τ, kp_57_115 Q ls st τ → px_W C k 115 ls st τ := by
  intro ls st τ hz
  obtain ⟨ez, h0⟩ := hz
  obtain ⟨x0, l0, e0, h1⟩ := kN_sp h0
  obtain ⟨z1, l1, e1, h2⟩ := kZ_sp h1
  obtain ⟨z2, l2, e2, h3⟩ := kZ_sp h2
  obtain ⟨z3, l3, e3, h4⟩ := kZ_sp h3
  obtain ⟨z4, l4, e4, h5⟩ := kZ_sp h4
  obtain ⟨z5, l5, e5, h6⟩ := kZ_sp h5
  obtain ⟨z6, l6, e6, h7⟩ := kZ_sp h6
  obtain ⟨x7, l7, e7, h8⟩ := kI_sp h7
  obtain ⟨ey, hy⟩ := kE_sp h8
  subst ez
  subst ey
  subst e7
  subst e6
  subst e5
  subst e4
  subst e3
  subst e2
  subst e1
  subst e0
  exact H x0 x7 τ hy z1 z2 z3 z4 z5 z6
def kp_57_92 (Q : Nat → Int32 → Int32 → px_M → Prop) : px_P := fun ls st τ => st = [] ∧ kN ls (fun x0 ls => kZ ls (fun ls => kZ ls (fun ls => kZ ls (fun ls => kZ ls (fun ls => kI ls (fun x5 ls => kI ls (fun x6 ls => kZ ls (fun ls => kE ls (Q x0 x5 x6 τ)))))))))
theorem kq_57_92 {C : px_C} {k : Option px_V → px_M → Prop} {Q : Nat → Int32 → Int32 → px_M → Prop} (H : ∀ (x0 : Nat) (x5 : Int32) (x6 : Int32) (τ : px_M), Q x0 x5 x6 τ → ∀ (z1 : Option px_V) (z2 : Option px_V) (z3 : Option px_V) (z4 : Option px_V) (z7 : Option px_V), px_W C k 92 [some (.inr (.inr (some x0))), z1, z2, z3, z4, some (.inl x5), some (.inl x6), z7] [] τ) : ∀ ls st τ, kp_57_92 Q ls st τ → px_W C k 92 ls st τ := by
  intro ls st τ hz
  obtain ⟨ez, h0⟩ := hz
  obtain ⟨x0, l0, e0, h1⟩ := kN_sp h0
  obtain ⟨z1, l1, e1, h2⟩ := kZ_sp h1
  obtain ⟨z2, l2, e2, h3⟩ := kZ_sp h2
  obtain ⟨z3, l3, e3, h4⟩ := kZ_sp h3
  obtain ⟨z4, l4, e4, h5⟩ := kZ_sp h4
  obtain ⟨x5, l5, e5, h6⟩ := kI_sp h5
  obtain ⟨x6, l6, e6, h7⟩ := kI_sp h6
  obtain ⟨z7, l7, e7, h8⟩ := kZ_sp h7
  obtain ⟨ey, hy⟩ := kE_sp h8
  subst ez
  subst ey
  subst e7
  subst e6
  subst e5
  subst e4
  subst e3
  subst e2
  subst e1
  subst e0
  exact H x0 x5 x6 τ hy z1 z2 z3 z4 z7
def kp_57_67 (Q : Nat → Int32 → Int32 → px_M → Prop) : px_P := fun ls st τ => st = [] ∧ kN ls (fun x0 ls => kZ ls (fun ls => kZ ls (fun ls => kZ ls (fun ls => kZ ls (fun ls => kI ls (fun x5 ls => kI ls (fun x6 ls => kZ ls (fun ls => kE ls (Q x0 x5 x6 τ)))))))))
theorem kq_57_67 {C : px_C} {k : Option px_V → px_M → Prop} {Q : Nat → Int32 → Int32 → px_M → Prop} (H : ∀ (x0 : Nat) (x5 : Int32) (x6 : Int32) (τ : px_M), Q x0 x5 x6 τ → ∀ (z1 : Option px_V) (z2 : Option px_V) (z3 : Option px_V) (z4 : Option px_V) (z7 : Option px_V), px_W C k 67 [some (.inr (.inr (some x0))), z1, z2, z3, z4, some (.inl x5), some (.inl x6), z7] [] τ) : ∀ ls st τ, kp_57_67 Q ls st τ → px_W C k 67 ls st τ := by
  intro ls st τ hz
  obtain ⟨ez, h0⟩ := hz
  obtain ⟨x0, l0, e0, h1⟩ := kN_sp h0
  obtain ⟨z1, l1, e1, h2⟩ := kZ_sp h1
  obtain ⟨z2, l2, e2, h3⟩ := kZ_sp h2
  obtain ⟨z3, l3, e3, h4⟩ := kZ_sp h3
  obtain ⟨z4, l4, e4, h5⟩ := kZ_sp h4
  obtain ⟨x5, l5, e5, h6⟩ := kI_sp h5
  obtain ⟨x6, l6, e6, h7⟩ := kI_sp h6
  obtain ⟨z7, l7, e7, h8⟩ := kZ_sp h7
  obtain ⟨ey, hy⟩ := kE_sp h8
  subst ez
  subst ey
  subst e7
  subst e6
  subst e5
  subst e4
  subst e3
  subst e2
  subst e1
  subst e0
  exact H x0 x5 x6 τ hy z1 z2 z3 z4 z7
def kp_57_65 (Q : px_M → Prop) : px_P := fun ls st τ => st = [] ∧ kZ ls (fun ls => kZ ls (fun ls => kZ ls (fun ls => kZ ls (fun ls => kZ ls (fun ls => kZ ls (fun ls => kZ ls (fun ls => kZ ls (fun ls => kE ls (Q τ)))))))))
theorem kq_57_65 {C : px_C} {k : Option px_V → px_M → Prop} {Q : px_M → Prop} (H : ∀ (τ : px_M), Q τ → ∀ (z0 : Option px_V) (z1 : Option px_V) (z2 : Option px_V) (z3 : Option px_V) (z4 : Option px_V) (z5 : Option px_V) (z6 : Option px_V) (z7 : Option px_V), px_W C k 65 [z0, z1, z2, z3, z4, z5, z6, z7] [] τ) : ∀ ls st τ, kp_57_65 Q ls st τ → px_W C k 65 ls st τ := by
  intro ls st τ hz
  obtain ⟨ez, h0⟩ := hz
  obtain ⟨z0, l0, e0, h1⟩ := kZ_sp h0
  obtain ⟨z1, l1, e1, h2⟩ := kZ_sp h1
  obtain ⟨z2, l2, e2, h3⟩ := kZ_sp h2
  obtain ⟨z3, l3, e3, h4⟩ := kZ_sp h3
  obtain ⟨z4, l4, e4, h5⟩ := kZ_sp h4
  obtain ⟨z5, l5, e5, h6⟩ := kZ_sp h5
  obtain ⟨z6, l6, e6, h7⟩ := kZ_sp h6
  obtain ⟨z7, l7, e7, h8⟩ := kZ_sp h7
  obtain ⟨ey, hy⟩ := kE_sp h8
  subst ez
  subst ey
  subst e7
  subst e6
  subst e5
  subst e4
  subst e3
  subst e2
  subst e1
  subst e0
  exact H τ hy z0 z1 z2 z3 z4 z5 z6 z7
def kp_57_49 (Q : Nat → Int32 → Int32 → px_M → Prop) : px_P := fun ls st τ => st = [] ∧ kN ls (fun x0 ls => kZ ls (fun ls => kZ ls (fun ls => kZ ls (fun ls => kZ ls (fun ls => kI ls (fun x5 ls => kI ls (fun x6 ls => kZ ls (fun ls => kE ls (Q x0 x5 x6 τ)))))))))
theorem kq_57_49 {C : px_C} {k : Option px_V → px_M → Prop} {Q : Nat → Int32 → Int32 → px_M → Prop} (H : ∀ (x0 : Nat) (x5 : Int32) (x6 : Int32) (τ : px_M), Q x0 x5 x6 τ → ∀ (z1 : Option px_V) (z2 : Option px_V) (z3 : Option px_V) (z4 : Option px_V) (z7 : Option px_V), px_W C k 49 [some (.inr (.inr (some x0))), z1, z2, z3, z4, some (.inl x5), some (.inl x6), z7] [] τ) : ∀ ls st τ, kp_57_49 Q ls st τ → px_W C k 49 ls st τ := by
  intro ls st τ hz
  obtain ⟨ez, h0⟩ := hz
  obtain ⟨x0, l0, e0, h1⟩ := kN_sp h0
  obtain ⟨z1, l1, e1, h2⟩ := kZ_sp h1
  obtain ⟨z2, l2, e2, h3⟩ := kZ_sp h2
  obtain ⟨z3, l3, e3, h4⟩ := kZ_sp h3
  obtain ⟨z4, l4, e4, h5⟩ := kZ_sp h4
  obtain ⟨x5, l5, e5, h6⟩ := kI_sp h5
  obtain ⟨x6, l6, e6, h7⟩ := kI_sp h6
  obtain ⟨z7, l7, e7, h8⟩ := kZ_sp h7
  obtain ⟨ey, hy⟩ := kE_sp h8
  subst ez
  subst ey
  subst e7
  subst e6
  subst e5
  subst e4
  subst e3
  subst e2
  subst e1
  subst e0
  exact H x0 x5 x6 τ hy z1 z2 z3 z4 z7
def kp_57_47 (Q : px_M → Prop) : px_P := fun ls st τ => st = [] ∧ kZ ls (fun ls => kZ ls (fun ls => kZ ls (fun ls => kZ ls (fun ls => kZ ls (fun ls => kZ ls (fun ls => kZ ls (fun ls => kZ ls (fun ls => kE ls (Q τ)))))))))
theorem kq_57_47 {C : px_C} {k : Option px_V → px_M → Prop} {Q : px_M → Prop} (H : ∀ (τ : px_M), Q τ → ∀ (z0 : Option px_V) (z1 : Option px_V) (z2 : Option px_V) (z3 : Option px_V) (z4 : Option px_V) (z5 : Option px_V) (z6 : Option px_V) (z7 : Option px_V), px_W C k 47 [z0, z1, z2, z3, z4, z5, z6, z7] [] τ) : ∀ ls st τ, kp_57_47 Q ls st τ → px_W C k 47 ls st τ := by
  intro ls st τ hz
  obtain ⟨ez, h0⟩ := hz
  obtain ⟨z0, l0, e0, h1⟩ := kZ_sp h0
  obtain ⟨z1, l1, e1, h2⟩ := kZ_sp h1
  obtain ⟨z2, l2, e2, h3⟩ := kZ_sp h2
  obtain ⟨z3, l3, e3, h4⟩ := kZ_sp h3
  obtain ⟨z4, l4, e4, h5⟩ := kZ_sp h4
  obtain ⟨z5, l5, e5, h6⟩ := kZ_sp h5
  obtain ⟨z6, l6, e6, h7⟩ := kZ_sp h6
  obtain ⟨z7, l7, e7, h8⟩ := kZ_sp h7
  obtain ⟨ey, hy⟩ := kE_sp h8
  subst ez
  subst ey
  subst e7
  subst e6
  subst e5
  subst e4
  subst e3
  subst e2
  subst e1
  subst e0
  exact H τ hy z0 z1 z2 z3 z4 z5 z6 z7
def kp_57_28 (Q : Nat → Int64 → Int32 → px_M → Prop) : px_P := fun ls st τ => st = [] ∧ kN ls (fun x0 ls => kZ ls (fun ls => kZ ls (fun ls => kJ ls (fun x3 ls => kI ls (fun x5 ls => kZ ls (fun ls => kZ ls (fun ls => kE ls (Q x0 x3 x5 τ))))))))
theorem kq_57_28 {C : px_C} {k : Option px_V → px_M → Prop} {Q : Nat → Int64 → Int32 → px_M → Prop} (H : ∀ (x0 : Nat) (x3 : Int64) (x5 : Int32) (τ : px_M), Q x0 x3 x5 τ → ∀ (z1 : Option px_V) (z2 : Option px_V) (z6 : Option px_V) (z7 : Option px_V), px_W C k 28 [some (.inr (.inr (some x0))), z1, z2, some (.inr (.inl x3)), none, some (.inl x5), z6, z7] [] τ) : ∀ ls st τ, kp_57_28 Q ls st τ → px_W C k 28 ls st τ := by
  intro ls st τ hz
  obtain ⟨ez, h0⟩ := hz
  obtain ⟨x0, l0, e0, h1⟩ := kN_sp h0
  obtain ⟨z1, l1, e1, h2⟩ := kZ_sp h1
  obtain ⟨z2, l2, e2, h3⟩ := kZ_sp h2
  obtain ⟨x3, l3, e3, h4⟩ := kJ_sp h3
  obtain ⟨x5, l4, e4, h5⟩ := kI_sp h4
  obtain ⟨z6, l5, e5, h6⟩ := kZ_sp h5
  obtain ⟨z7, l6, e6, h7⟩ := kZ_sp h6
  obtain ⟨ey, hy⟩ := kE_sp h7
  subst ez
  subst ey
  subst e6
  subst e5
  subst e4
  subst e3
  subst e2
  subst e1
  subst e0
  exact H x0 x3 x5 τ hy z1 z2 z6 z7
def kp_57_22 (Q : px_M → Prop) : px_P := fun ls st τ => st = [] ∧ kZ ls (fun ls => kZ ls (fun ls => kZ ls (fun ls => kZ ls (fun ls => kZ ls (fun ls => kZ ls (fun ls => kZ ls (fun ls => kZ ls (fun ls => kE ls (Q τ)))))))))
theorem kq_57_22 {C : px_C} {k : Option px_V → px_M → Prop} {Q : px_M → Prop} (H : ∀ (τ : px_M), Q τ → ∀ (z0 : Option px_V) (z1 : Option px_V) (z2 : Option px_V) (z3 : Option px_V) (z4 : Option px_V) (z5 : Option px_V) (z6 : Option px_V) (z7 : Option px_V), px_W C k 22 [z0, z1, z2, z3, z4, z5, z6, z7] [] τ) : ∀ ls st τ, kp_57_22 Q ls st τ → px_W C k 22 ls st τ := by
  intro ls st τ hz
  obtain ⟨ez, h0⟩ := hz
  obtain ⟨z0, l0, e0, h1⟩ := kZ_sp h0
  obtain ⟨z1, l1, e1, h2⟩ := kZ_sp h1
  obtain ⟨z2, l2, e2, h3⟩ := kZ_sp h2
  obtain ⟨z3, l3, e3, h4⟩ := kZ_sp h3
  obtain ⟨z4, l4, e4, h5⟩ := kZ_sp h4
  obtain ⟨z5, l5, e5, h6⟩ := kZ_sp h5
  obtain ⟨z6, l6, e6, h7⟩ := kZ_sp h6
  obtain ⟨z7, l7, e7, h8⟩ := kZ_sp h7
  obtain ⟨ey, hy⟩ := kE_sp h8
  subst ez
  subst ey
  subst e7
  subst e6
  subst e5
  subst e4
  subst e3
  subst e2
  subst e1
  subst e0
  exact H τ hy z0 z1 z2 z3 z4 z5 z6 z7
def kp_57_16 (Q : Nat → Int64 → Int64 → px_M → Prop) : px_P := fun ls st τ => st = [] ∧ kN ls (fun x0 ls => kJ ls (fun x1 ls => kJ ls (fun x3 ls => kZ ls (fun ls => kZ ls (fun ls => kZ ls (fun ls => kE ls (Q x0 x1 x3 τ)))))))
theorem kq_57_16 {C : px_C} {k : Option px_V → px_M → Prop} {Q : Nat → Int64 → Int64 → px_M → Prop} (H : ∀ (x0 : Nat) (x1 : Int64) (x3 : Int64) (τ : px_M), Q x0 x1 x3 τ → ∀ (z5 : Option px_V) (z6 : Option px_V) (z7 : Option px_V), px_W C k 16 [some (.inr (.inr (some x0))), some (.inr (.inl x1)), none, some (.inr (.inl x3)), none, z5, z6, z7] [] τ) : ∀ ls st τ, kp_57_16 Q ls st τ → px_W C k 16 ls st τ := by
  intro ls st τ hz
  obtain ⟨ez, h0⟩ := hz
  obtain ⟨x0, l0, e0, h1⟩ := kN_sp h0
  obtain ⟨x1, l1, e1, h2⟩ := kJ_sp h1
  obtain ⟨x3, l2, e2, h3⟩ := kJ_sp h2
  obtain ⟨z5, l3, e3, h4⟩ := kZ_sp h3
  obtain ⟨z6, l4, e4, h5⟩ := kZ_sp h4
  obtain ⟨z7, l5, e5, h6⟩ := kZ_sp h5
  obtain ⟨ey, hy⟩ := kE_sp h6
  subst ez
  subst ey
  subst e5
  subst e4
  subst e3
  subst e2
  subst e1
  subst e0
  exact H x0 x1 x3 τ hy z5 z6 z7
set_option maxHeartbeats 4000000 in
set_option maxRecDepth 100000 in
theorem rl_57_115 {C : px_C} (hn : px_nd (px_tb C)) {h : Nat} (hh : 32 ≤ h) (hC : px_ok C pn_i57 h) {k : Option px_V → px_M → Prop} {x0 : Nat} {x7 : Int32} {σ : px_M} (hs : oW (f_57_115 (px_tb C) σ x0 x7) (fun q => k (some (.inl q.1)) q.2)) : ∀ (z1 : Option px_V) (z2 : Option px_V) (z3 : Option px_V) (z4 : Option px_V) (z5 : Option px_V) (z6 : Option px_V), px_W C k 115 [some (.inr (.inr (some x0))), z1, z2, z3, z4, z5, z6, some (.inl x7)] [] σ := by
  intro z1 z2 z3 z4 z5 z6
  refine px_runH (h - 1) ck_57 [(53, Sg_53 (f_53 (px_tb C)))] [] 80 8 (some .int) rfl rfl hC (px_sp1 (mf_53 hn (by omega)) px_nosp) (by omega) px_nocut (fun G Jf hG hJf => ?_)
  unfold f_57_115 at hs
  obtain ⟨hc0, hs⟩ := oW_gx hs
  obtain ⟨n1, hc1, hs⟩ := oW_bx hs
  obtain ⟨q2, hc2, hs⟩ := oW_bx hs
  by_cases hc3 : x7 = nI 0
  · replace hs := oW_t hs hc3
    simp only [↓hG, ↓hJf, ↓px_vc, ↓px_ex, ↓px_jp, ↓px_gi, ↓px_gl, ↓px_gr, ↓px_s1, ↓px_s2, ↓px_nl, ↓px_i1, ↓px_l1, ↓r1_s, ↓px_q1, ↓px_i2, ↓px_l2, ↓px_il, ↓px_d0, ↓px_d1, ↓px_d2, ↓px_pop, ↓px_sp, ↓px_rd, ↓px_rf, ↓pn_xf, ↓px_pt, ↓px_sw, ↓pn_SW, ↓px_ma, ↓reduceIte, Nat.reduceEqDiff, Nat.reduceAdd, Nat.reduceSub, ↓Option.toList_some, ↓Option.toList_none, ↓List.cons_append, ↓List.nil_append, ↓kI_s, ↓kJ_s, ↓kN_s, ↓kO_s, ↓kZ_s, ↓kE_s, ↓an_rfl, ↓bt1 n00, ↓bt2 n00, ↓bf1 n10, ↓bf2 n10, ↓an_sz0, ↓an_sz1, ↓an_sz2, ↓an_sz3, ↓an_sz4, ↓an_ri, ↓an_rb0, ↓an_rb1, ↓an_b0, ↓an_b1, true_and, ↓ai_0s, ↓al_0s, ↓av_0s, ↓aq_0s, ↓ai_1s, ↓al_1s, ↓av_1s, ↓aq_1s, ↓ai_2s, ↓al_2s, ↓av_2s, ↓aq_2s, ↓ai_3s, ↓al_3s, ↓av_3s, ↓aq_3s, ↓ai_4s, ↓al_4s, ↓av_4s, ↓aq_4s, ↓ai_5s, ↓al_5s, ↓av_5s, ↓aq_5s, ↓ai_6s, ↓al_6s, ↓av_6s, ↓aq_6s, ↓ai_7s, ↓al_7s, ↓av_7s, ↓aq_7s, ↓an_l8, ↓bk_57, ↓Sg_53, ↓an_t hc0, ↓an_rv hc0, ↓r1_e hc1, ↓av_0e hc1, ↓av_1e hc1, ↓av_2e hc1, ↓av_3e hc1, ↓oW_e hc2, ↓bt1 hc3, ↓bt2 hc3]
    rw [oW_some] at hs
    exact hs
  · replace hs := oW_f hs hc3
    simp only [↓hG, ↓hJf, ↓px_vc, ↓px_ex, ↓px_jp, ↓px_gi, ↓px_gl, ↓px_gr, ↓px_s1, ↓px_s2, ↓px_nl, ↓px_i1, ↓px_l1, ↓r1_s, ↓px_q1, ↓px_i2, ↓px_l2, ↓px_il, ↓px_d0, ↓px_d1, ↓px_d2, ↓px_pop, ↓px_sp, ↓px_rd, ↓px_rf, ↓pn_xf, ↓px_pt, ↓px_sw, ↓pn_SW, ↓px_ma, ↓reduceIte, Nat.reduceEqDiff, Nat.reduceAdd, Nat.reduceSub, ↓Option.toList_some, ↓Option.toList_none, ↓List.cons_append, ↓List.nil_append, ↓kI_s, ↓kJ_s, ↓kN_s, ↓kO_s, ↓kZ_s, ↓kE_s, ↓an_rfl, ↓bt1 n00, ↓bt2 n00, ↓bf1 n10, ↓bf2 n10, ↓an_sz0, ↓an_sz1, ↓an_sz2, ↓an_sz3, ↓an_sz4, ↓an_ri, ↓an_rb0, ↓an_rb1, ↓an_b0, ↓an_b1, true_and, ↓ai_0s, ↓al_0s, ↓av_0s, ↓aq_0s, ↓ai_1s, ↓al_1s, ↓av_1s, ↓aq_1s, ↓ai_2s, ↓al_2s, ↓av_2s, ↓aq_2s, ↓ai_3s, ↓al_3s, ↓av_3s, ↓aq_3s, ↓ai_4s, ↓al_4s, ↓av_4s, ↓aq_4s, ↓ai_5s, ↓al_5s, ↓av_5s, ↓aq_5s, ↓ai_6s, ↓al_6s, ↓av_6s, ↓aq_6s, ↓ai_7s, ↓al_7s, ↓av_7s, ↓aq_7s, ↓an_l8, ↓bk_57, ↓Sg_53, ↓an_t hc0, ↓an_rv hc0, ↓r1_e hc1, ↓av_0e hc1, ↓av_1e hc1, ↓av_2e hc1, ↓av_3e hc1, ↓oW_e hc2, ↓bf1 hc3, ↓bf2 hc3]
    rw [oW_some] at hs
    exact hs
set_option maxHeartbeats 4000000 in
set_option maxRecDepth 100000 in
theorem rl_57_92 {C : px_C} (hn : px_nd (px_tb C)) {h : Nat} (hh : 32 ≤ h) (hC : px_ok C pn_i57 h) {k : Option px_V → px_M → Prop} {x0 : Nat} {x5 : Int32} {x6 : Int32} {σ : px_M} (hs : oW (f_57_92 (px_tb C) σ x0 x5 x6) (fun q => k (some (.inl q.1)) q.2)) : ∀ (z1 : Option px_V) (z2 : Option px_V) (z3 : Option px_V) (z4 : Option px_V) (z7 : Option px_V), px_W C k 92 [some (.inr (.inr (some x0))), z1, z2, z3, z4, some (.inl x5), some (.inl x6), z7] [] σ := by
  intro z1 z2 z3 z4 z7
  refine px_runH (h - 1) ck_57 [(15, Sg_15 (f_15 (px_tb C))), (56, Sg_56 (f_56 (px_tb C)))] [(115, kp_57_115 (fun y0 y7 τ => oW (f_57_115 (px_tb C) τ y0 y7) (fun q => k (some (.inl q.1)) q.2)))] 80 8 (some .int) rfl rfl hC (px_sp1 (mf_15 hn (by omega)) (px_sp1 (mf_56 hn (by omega)) px_nosp)) (by omega) (px_cut1 (kq_57_115 (fun y0 y7 τ hq => by exact rl_57_115 hn (by omega) hC  hq)) px_nocut) (fun G Jf hG hJf => ?_)
  unfold f_57_92 at hs
  obtain ⟨hc0, hs⟩ := oW_gx hs
  obtain ⟨n1, hc1, hs⟩ := oW_bx hs
  obtain ⟨q2, hc2, hs⟩ := oW_bx hs
  obtain ⟨n3, hc3, hs⟩ := oW_bx hs
  obtain ⟨t4, l5, hc4, hs⟩ := oW_ax hs
  obtain ⟨hc5, hs⟩ := oW_gx hs
  obtain ⟨hc6, hs⟩ := oW_gx hs
  obtain ⟨q6, hc7, hs⟩ := oW_bx hs
  simp only [↓hG, ↓hJf, ↓px_vc, ↓px_ex, ↓px_jp, ↓px_gi, ↓px_gl, ↓px_gr, ↓px_s1, ↓px_s2, ↓px_nl, ↓px_i1, ↓px_l1, ↓r1_s, ↓px_q1, ↓px_i2, ↓px_l2, ↓px_il, ↓px_d0, ↓px_d1, ↓px_d2, ↓px_pop, ↓px_sp, ↓px_rd, ↓px_rf, ↓pn_xf, ↓px_pt, ↓px_sw, ↓pn_SW, ↓px_ma, ↓reduceIte, Nat.reduceEqDiff, Nat.reduceAdd, Nat.reduceSub, ↓Option.toList_some, ↓Option.toList_none, ↓List.cons_append, ↓List.nil_append, ↓kI_s, ↓kJ_s, ↓kN_s, ↓kO_s, ↓kZ_s, ↓kE_s, ↓an_rfl, ↓bt1 n00, ↓bt2 n00, ↓bf1 n10, ↓bf2 n10, ↓an_sz0, ↓an_sz1, ↓an_sz2, ↓an_sz3, ↓an_sz4, ↓an_ri, ↓an_rb0, ↓an_rb1, ↓an_b0, ↓an_b1, true_and, ↓ai_0s, ↓al_0s, ↓av_0s, ↓aq_0s, ↓ai_1s, ↓al_1s, ↓av_1s, ↓aq_1s, ↓ai_2s, ↓al_2s, ↓av_2s, ↓aq_2s, ↓ai_3s, ↓al_3s, ↓av_3s, ↓aq_3s, ↓ai_4s, ↓al_4s, ↓av_4s, ↓aq_4s, ↓ai_5s, ↓al_5s, ↓av_5s, ↓aq_5s, ↓ai_6s, ↓al_6s, ↓av_6s, ↓aq_6s, ↓ai_7s, ↓al_7s, ↓av_7s, ↓aq_7s, ↓an_l8, ↓bk_57, ↓Sg_15, ↓Sg_56, ↓kp_57_115, ↓an_t hc0, ↓an_rv hc0, ↓r1_e hc1, ↓av_0e hc1, ↓av_1e hc1, ↓av_2e hc1, ↓av_3e hc1, ↓oW_e hc2, ↓r1_e hc3, ↓av_0e hc3, ↓av_1e hc3, ↓av_2e hc3, ↓av_3e hc3, ↓ar_e hc4, ↓an_t hc5, ↓an_t hc6, ↓oW_e hc7]
  exact hs
set_option maxHeartbeats 4000000 in
set_option maxRecDepth 100000 in
theorem rl_57_67 {C : px_C} (hn : px_nd (px_tb C)) {h : Nat} (hh : 32 ≤ h) (hC : px_ok C pn_i57 h) {k : Option px_V → px_M → Prop} {x0 : Nat} {x5 : Int32} {x6 : Int32} {σ : px_M} (hs : oW (f_57_67 (px_tb C) σ x0 x5 x6) (fun q => k (some (.inl q.1)) q.2)) : ∀ (z1 : Option px_V) (z2 : Option px_V) (z3 : Option px_V) (z4 : Option px_V) (z7 : Option px_V), px_W C k 67 [some (.inr (.inr (some x0))), z1, z2, z3, z4, some (.inl x5), some (.inl x6), z7] [] σ := by
  intro z1 z2 z3 z4 z7
  refine px_runH (h - 1) ck_57 [(52, Sg_52 (f_52 (px_tb C))), (55, Sg_55 (f_55 (px_tb C)))] [(92, kp_57_92 (fun y0 y5 y6 τ => oW (f_57_92 (px_tb C) τ y0 y5 y6) (fun q => k (some (.inl q.1)) q.2)))] 80 8 (some .int) rfl rfl hC (px_sp1 (mf_52 hn (by omega)) (px_sp1 (mf_55 hn (by omega)) px_nosp)) (by omega) (px_cut1 (kq_57_92 (fun y0 y5 y6 τ hq => by exact rl_57_92 hn (by omega) hC  hq)) px_nocut) (fun G Jf hG hJf => ?_)
  unfold f_57_67 at hs
  obtain ⟨hc0, hs⟩ := oW_gx hs
  obtain ⟨n1, hc1, hs⟩ := oW_bx hs
  obtain ⟨t2, l3, hc2, hs⟩ := oW_ax hs
  obtain ⟨hc3, hs⟩ := oW_gx hs
  obtain ⟨hc4, hs⟩ := oW_gx hs
  by_cases hc5 : (px_av t2 σ n1 ((nI 158)).toNatClampNeg) = nI 0
  · replace hs := bW_t hs hc5
    simp only [↓hG, ↓hJf, ↓px_vc, ↓px_ex, ↓px_jp, ↓px_gi, ↓px_gl, ↓px_gr, ↓px_s1, ↓px_s2, ↓px_nl, ↓px_i1, ↓px_l1, ↓r1_s, ↓px_q1, ↓px_i2, ↓px_l2, ↓px_il, ↓px_d0, ↓px_d1, ↓px_d2, ↓px_pop, ↓px_sp, ↓px_rd, ↓px_rf, ↓pn_xf, ↓px_pt, ↓px_sw, ↓pn_SW, ↓px_ma, ↓reduceIte, Nat.reduceEqDiff, Nat.reduceAdd, Nat.reduceSub, ↓Option.toList_some, ↓Option.toList_none, ↓List.cons_append, ↓List.nil_append, ↓kI_s, ↓kJ_s, ↓kN_s, ↓kO_s, ↓kZ_s, ↓kE_s, ↓an_rfl, ↓bt1 n00, ↓bt2 n00, ↓bf1 n10, ↓bf2 n10, ↓an_sz0, ↓an_sz1, ↓an_sz2, ↓an_sz3, ↓an_sz4, ↓an_ri, ↓an_rb0, ↓an_rb1, ↓an_b0, ↓an_b1, true_and, ↓ai_0s, ↓al_0s, ↓av_0s, ↓aq_0s, ↓ai_1s, ↓al_1s, ↓av_1s, ↓aq_1s, ↓ai_2s, ↓al_2s, ↓av_2s, ↓aq_2s, ↓ai_3s, ↓al_3s, ↓av_3s, ↓aq_3s, ↓ai_4s, ↓al_4s, ↓av_4s, ↓aq_4s, ↓ai_5s, ↓al_5s, ↓av_5s, ↓aq_5s, ↓ai_6s, ↓al_6s, ↓av_6s, ↓aq_6s, ↓ai_7s, ↓al_7s, ↓av_7s, ↓aq_7s, ↓an_l8, ↓bk_57, ↓Sg_52, ↓Sg_55, ↓kp_57_92, ↓an_t hc0, ↓an_rv hc0, ↓r1_e hc1, ↓av_0e hc1, ↓av_1e hc1, ↓av_2e hc1, ↓av_3e hc1, ↓ar_e hc2, ↓an_t hc3, ↓an_t hc4, ↓bt1 hc5, ↓bt2 hc5]
    rw [oW_some] at hs
    exact hs
  · replace hs := bW_f hs hc5
    obtain ⟨q4, hc6, hs⟩ := oW_bx hs
    obtain ⟨n5, hc7, hs⟩ := oW_bx hs
    obtain ⟨q6, hc8, hs⟩ := oW_bx hs
    simp only [↓hG, ↓hJf, ↓px_vc, ↓px_ex, ↓px_jp, ↓px_gi, ↓px_gl, ↓px_gr, ↓px_s1, ↓px_s2, ↓px_nl, ↓px_i1, ↓px_l1, ↓r1_s, ↓px_q1, ↓px_i2, ↓px_l2, ↓px_il, ↓px_d0, ↓px_d1, ↓px_d2, ↓px_pop, ↓px_sp, ↓px_rd, ↓px_rf, ↓pn_xf, ↓px_pt, ↓px_sw, ↓pn_SW, ↓px_ma, ↓reduceIte, Nat.reduceEqDiff, Nat.reduceAdd, Nat.reduceSub, ↓Option.toList_some, ↓Option.toList_none, ↓List.cons_append, ↓List.nil_append, ↓kI_s, ↓kJ_s, ↓kN_s, ↓kO_s, ↓kZ_s, ↓kE_s, ↓an_rfl, ↓bt1 n00, ↓bt2 n00, ↓bf1 n10, ↓bf2 n10, ↓an_sz0, ↓an_sz1, ↓an_sz2, ↓an_sz3, ↓an_sz4, ↓an_ri, ↓an_rb0, ↓an_rb1, ↓an_b0, ↓an_b1, true_and, ↓ai_0s, ↓al_0s, ↓av_0s, ↓aq_0s, ↓ai_1s, ↓al_1s, ↓av_1s, ↓aq_1s, ↓ai_2s, ↓al_2s, ↓av_2s, ↓aq_2s, ↓ai_3s, ↓al_3s, ↓av_3s, ↓aq_3s, ↓ai_4s, ↓al_4s, ↓av_4s, ↓aq_4s, ↓ai_5s, ↓al_5s, ↓av_5s, ↓aq_5s, ↓ai_6s, ↓al_6s, ↓av_6s, ↓aq_6s, ↓ai_7s, ↓al_7s, ↓av_7s, ↓aq_7s, ↓an_l8, ↓bk_57, ↓Sg_52, ↓Sg_55, ↓kp_57_92, ↓an_t hc0, ↓an_rv hc0, ↓r1_e hc1, ↓av_0e hc1, ↓av_1e hc1, ↓av_2e hc1, ↓av_3e hc1, ↓ar_e hc2, ↓an_t hc3, ↓an_t hc4, ↓bf1 hc5, ↓bf2 hc5, ↓oW_e hc6, ↓r1_e hc7, ↓av_0e hc7, ↓av_1e hc7, ↓av_2e hc7, ↓av_3e hc7, ↓oW_e hc8]
    exact hs
set_option maxHeartbeats 4000000 in
set_option maxRecDepth 100000 in
theorem rl_57_65 {C : px_C} (hn : px_nd (px_tb C)) {h : Nat} (hh : 32 ≤ h) (hC : px_ok C pn_i57 h) {k : Option px_V → px_M → Prop} {σ : px_M} (hs : oW (f_57_65 (px_tb C) σ) (fun q => k (some (.inl q.1)) q.2)) : ∀ (z0 : Option px_V) (z1 : Option px_V) (z2 : Option px_V) (z3 : Option px_V) (z4 : Option px_V) (z5 : Option px_V) (z6 : Option px_V) (z7 : Option px_V), px_W C k 65 [z0, z1, z2, z3, z4, z5, z6, z7] [] σ := by
  intro z0 z1 z2 z3 z4 z5 z6 z7
  refine px_runH (h - 1) ck_57 [] [] 80 8 (some .int) rfl rfl hC px_nosp (by omega) px_nocut (fun G Jf hG hJf => ?_)
  unfold f_57_65 at hs
  simp only [↓hG, ↓hJf, ↓px_vc, ↓px_ex, ↓px_jp, ↓px_gi, ↓px_gl, ↓px_gr, ↓px_s1, ↓px_s2, ↓px_nl, ↓px_i1, ↓px_l1, ↓r1_s, ↓px_q1, ↓px_i2, ↓px_l2, ↓px_il, ↓px_d0, ↓px_d1, ↓px_d2, ↓px_pop, ↓px_sp, ↓px_rd, ↓px_rf, ↓pn_xf, ↓px_pt, ↓px_sw, ↓pn_SW, ↓px_ma, ↓reduceIte, Nat.reduceEqDiff, Nat.reduceAdd, Nat.reduceSub, ↓Option.toList_some, ↓Option.toList_none, ↓List.cons_append, ↓List.nil_append, ↓kI_s, ↓kJ_s, ↓kN_s, ↓kO_s, ↓kZ_s, ↓kE_s, ↓an_rfl, ↓bt1 n00, ↓bt2 n00, ↓bf1 n10, ↓bf2 n10, ↓an_sz0, ↓an_sz1, ↓an_sz2, ↓an_sz3, ↓an_sz4, ↓an_ri, ↓an_rb0, ↓an_rb1, ↓an_b0, ↓an_b1, true_and, ↓ai_0s, ↓al_0s, ↓av_0s, ↓aq_0s, ↓ai_1s, ↓al_1s, ↓av_1s, ↓aq_1s, ↓ai_2s, ↓al_2s, ↓av_2s, ↓aq_2s, ↓ai_3s, ↓al_3s, ↓av_3s, ↓aq_3s, ↓ai_4s, ↓al_4s, ↓av_4s, ↓aq_4s, ↓ai_5s, ↓al_5s, ↓av_5s, ↓aq_5s, ↓ai_6s, ↓al_6s, ↓av_6s, ↓aq_6s, ↓ai_7s, ↓al_7s, ↓av_7s, ↓aq_7s, ↓an_l8, ↓bk_57]
  rw [oW_some] at hs
  exact hs
set_option maxHeartbeats 4000000 in
set_option maxRecDepth 100000 in
theorem rl_57_49 {C : px_C} (hn : px_nd (px_tb C)) {h : Nat} (hh : 32 ≤ h) (hC : px_ok C pn_i57 h) {k : Option px_V → px_M → Prop} {x0 : Nat} {x5 : Int32} {x6 : Int32} {σ : px_M} (hs : oW (f_57_49 (px_tb C) σ x0 x5 x6) (fun q => k (some (.inl q.1)) q.2)) : ∀ (z1 : Option px_V) (z2 : Option px_V) (z3 : Option px_V) (z4 : Option px_V) (z7 : Option px_V), px_W C k 49 [some (.inr (.inr (some x0))), z1, z2, z3, z4, some (.inl x5), some (.inl x6), z7] [] σ := by
  intro z1 z2 z3 z4 z7
  refine px_runH (h - 1) ck_57 [(31, Sg_31 (f_31 (px_tb C)))] [(65, kp_57_65 (fun τ => oW (f_57_65 (px_tb C) τ) (fun q => k (some (.inl q.1)) q.2))), (67, kp_57_67 (fun y0 y5 y6 τ => oW (f_57_67 (px_tb C) τ y0 y5 y6) (fun q => k (some (.inl q.1)) q.2)))] 80 8 (some .int) rfl rfl hC (px_sp1 (mf_31 hn (by omega)) px_nosp) (by omega) (px_cut1 (kq_57_65 (fun τ hq => by exact rl_57_65 hn (by omega) hC  hq)) (px_cut1 (kq_57_67 (fun y0 y5 y6 τ hq => by exact rl_57_67 hn (by omega) hC  hq)) px_nocut)) (fun G Jf hG hJf => ?_)
  unfold f_57_49 at hs
  obtain ⟨hc0, hs⟩ := oW_gx hs
  obtain ⟨r1, hc1, hs⟩ := oW_bx hs
  obtain ⟨r2, hc2, hs⟩ := oW_bx hs
  by_cases hc3 : (r1 &&& r2) = nI 0
  · replace hs := oW_t hs hc3
    simp only [↓hG, ↓hJf, ↓px_vc, ↓px_ex, ↓px_jp, ↓px_gi, ↓px_gl, ↓px_gr, ↓px_s1, ↓px_s2, ↓px_nl, ↓px_i1, ↓px_l1, ↓r1_s, ↓px_q1, ↓px_i2, ↓px_l2, ↓px_il, ↓px_d0, ↓px_d1, ↓px_d2, ↓px_pop, ↓px_sp, ↓px_rd, ↓px_rf, ↓pn_xf, ↓px_pt, ↓px_sw, ↓pn_SW, ↓px_ma, ↓reduceIte, Nat.reduceEqDiff, Nat.reduceAdd, Nat.reduceSub, ↓Option.toList_some, ↓Option.toList_none, ↓List.cons_append, ↓List.nil_append, ↓kI_s, ↓kJ_s, ↓kN_s, ↓kO_s, ↓kZ_s, ↓kE_s, ↓an_rfl, ↓bt1 n00, ↓bt2 n00, ↓bf1 n10, ↓bf2 n10, ↓an_sz0, ↓an_sz1, ↓an_sz2, ↓an_sz3, ↓an_sz4, ↓an_ri, ↓an_rb0, ↓an_rb1, ↓an_b0, ↓an_b1, true_and, ↓ai_0s, ↓al_0s, ↓av_0s, ↓aq_0s, ↓ai_1s, ↓al_1s, ↓av_1s, ↓aq_1s, ↓ai_2s, ↓al_2s, ↓av_2s, ↓aq_2s, ↓ai_3s, ↓al_3s, ↓av_3s, ↓aq_3s, ↓ai_4s, ↓al_4s, ↓av_4s, ↓aq_4s, ↓ai_5s, ↓al_5s, ↓av_5s, ↓aq_5s, ↓ai_6s, ↓al_6s, ↓av_6s, ↓aq_6s, ↓ai_7s, ↓al_7s, ↓av_7s, ↓aq_7s, ↓an_l8, ↓bk_57, ↓Sg_31, ↓kp_57_65, ↓kp_57_67, ↓an_t hc0, ↓an_rv hc0, ↓oW_e hc1, ↓oW_e hc2, ↓bt1 hc3, ↓bt2 hc3]
    exact hs
  · replace hs := oW_f hs hc3
    simp only [↓hG, ↓hJf, ↓px_vc, ↓px_ex, ↓px_jp, ↓px_gi, ↓px_gl, ↓px_gr, ↓px_s1, ↓px_s2, ↓px_nl, ↓px_i1, ↓px_l1, ↓r1_s, ↓px_q1, ↓px_i2, ↓px_l2, ↓px_il, ↓px_d0, ↓px_d1, ↓px_d2, ↓px_pop, ↓px_sp, ↓px_rd, ↓px_rf, ↓pn_xf, ↓px_pt, ↓px_sw, ↓pn_SW, ↓px_ma, ↓reduceIte, Nat.reduceEqDiff, Nat.reduceAdd, Nat.reduceSub, ↓Option.toList_some, ↓Option.toList_none, ↓List.cons_append, ↓List.nil_append, ↓kI_s, ↓kJ_s, ↓kN_s, ↓kO_s, ↓kZ_s, ↓kE_s, ↓an_rfl, ↓bt1 n00, ↓bt2 n00, ↓bf1 n10, ↓bf2 n10, ↓an_sz0, ↓an_sz1, ↓an_sz2, ↓an_sz3, ↓an_sz4, ↓an_ri, ↓an_rb0, ↓an_rb1, ↓an_b0, ↓an_b1, true_and, ↓ai_0s, ↓al_0s, ↓av_0s, ↓aq_0s, ↓ai_1s, ↓al_1s, ↓av_1s, ↓aq_1s, ↓ai_2s, ↓al_2s, ↓av_2s, ↓aq_2s, ↓ai_3s, ↓al_3s, ↓av_3s, ↓aq_3s, ↓ai_4s, ↓al_4s, ↓av_4s, ↓aq_4s, ↓ai_5s, ↓al_5s, ↓av_5s, ↓aq_5s, ↓ai_6s, ↓al_6s, ↓av_6s, ↓aq_6s, ↓ai_7s, ↓al_7s, ↓av_7s, ↓aq_7s, ↓an_l8, ↓bk_57, ↓Sg_31, ↓kp_57_65, ↓kp_57_67, ↓an_t hc0, ↓an_rv hc0, ↓oW_e hc1, ↓oW_e hc2, ↓bf1 hc3, ↓bf2 hc3]
    exact hs
set_option maxHeartbeats 4000000 in
set_option maxRecDepth 100000 in
theorem rl_57_47 {C : px_C} (hn : px_nd (px_tb C)) {h : Nat} (hh : 32 ≤ h) (hC : px_ok C pn_i57 h) {k : Option px_V → px_M → Prop} {σ : px_M} (hs : oW (f_57_47 (px_tb C) σ) (fun q => k (some (.inl q.1)) q.2)) : ∀ (z0 : Option px_V) (z1 : Option px_V) (z2 : Option px_V) (z3 : Option px_V) (z4 : Option px_V) (z5 : Option px_V) (z6 : Option px_V) (z7 : Option px_V), px_W C k 47 [z0, z1, z2, z3, z4, z5, z6, z7] [] σ := by
  intro z0 z1 z2 z3 z4 z5 z6 z7
  refine px_runH (h - 1) ck_57 [] [] 80 8 (some .int) rfl rfl hC px_nosp (by omega) px_nocut (fun G Jf hG hJf => ?_)
  unfold f_57_47 at hs
  simp only [↓hG, ↓hJf, ↓px_vc, ↓px_ex, ↓px_jp, ↓px_gi, ↓px_gl, ↓px_gr, ↓px_s1, ↓px_s2, ↓px_nl, ↓px_i1, ↓px_l1, ↓r1_s, ↓px_q1, ↓px_i2, ↓px_l2, ↓px_il, ↓px_d0, ↓px_d1, ↓px_d2, ↓px_pop, ↓px_sp, ↓px_rd, ↓px_rf, ↓pn_xf, ↓px_pt, ↓px_sw, ↓pn_SW, ↓px_ma, ↓reduceIte, Nat.reduceEqDiff, Nat.reduceAdd, Nat.reduceSub, ↓Option.toList_some, ↓Option.toList_none, ↓List.cons_append, ↓List.nil_append, ↓kI_s, ↓kJ_s, ↓kN_s, ↓kO_s, ↓kZ_s, ↓kE_s, ↓an_rfl, ↓bt1 n00, ↓bt2 n00, ↓bf1 n10, ↓bf2 n10, ↓an_sz0, ↓an_sz1, ↓an_sz2, ↓an_sz3, ↓an_sz4, ↓an_ri, ↓an_rb0, ↓an_rb1, ↓an_b0, ↓an_b1, true_and, ↓ai_0s, ↓al_0s, ↓av_0s, ↓aq_0s, ↓ai_1s, ↓al_1s, ↓av_1s, ↓aq_1s, ↓ai_2s, ↓al_2s, ↓av_2s, ↓aq_2s, ↓ai_3s, ↓al_3s, ↓av_3s, ↓aq_3s, ↓ai_4s, ↓al_4s, ↓av_4s, ↓aq_4s, ↓ai_5s, ↓al_5s, ↓av_5s, ↓aq_5s, ↓ai_6s, ↓al_6s, ↓av_6s, ↓aq_6s, ↓ai_7s, ↓al_7s, ↓av_7s, ↓aq_7s, ↓an_l8, ↓bk_57]
  rw [oW_some] at hs
  exact hs
set_option maxHeartbeats 4000000 in
set_option maxRecDepth 100000 in
theorem rl_57_28 {C : px_C} (hn : px_nd (px_tb C)) {h : Nat} (hh : 32 ≤ h) (hC : px_ok C pn_i57 h) {k : Option px_V → px_M → Prop} {x0 : Nat} {x3 : Int64} {x5 : Int32} {σ : px_M} (hs : oW (f_57_28 (px_tb C) σ x0 x3 x5) (fun q => k (some (.inl q.1)) q.2)) : ∀ (z1 : Option px_V) (z2 : Option px_V) (z6 : Option px_V) (z7 : Option px_V), px_W C k 28 [some (.inr (.inr (some x0))), z1, z2, some (.inr (.inl x3)), none, some (.inl x5), z6, z7] [] σ := by
  intro z1 z2 z6 z7
  refine px_runH (h - 1) ck_57 [(14, Sg_14 (f_14 (px_tb C))), (31, Sg_31 (f_31 (px_tb C)))] [(47, kp_57_47 (fun τ => oW (f_57_47 (px_tb C) τ) (fun q => k (some (.inl q.1)) q.2))), (49, kp_57_49 (fun y0 y5 y6 τ => oW (f_57_49 (px_tb C) τ y0 y5 y6) (fun q => k (some (.inl q.1)) q.2)))] 80 8 (some .int) rfl rfl hC (px_sp1 (mf_14 hn (by omega)) (px_sp1 (mf_31 hn (by omega)) px_nosp)) (by omega) (px_cut1 (kq_57_47 (fun τ hq => by exact rl_57_47 hn (by omega) hC  hq)) (px_cut1 (kq_57_49 (fun y0 y5 y6 τ hq => by exact rl_57_49 hn (by omega) hC  hq)) px_nocut)) (fun G Jf hG hJf => ?_)
  unfold f_57_28 at hs
  obtain ⟨hc0, hs⟩ := oW_gx hs
  obtain ⟨r1, hc1, hs⟩ := oW_bx hs
  obtain ⟨r2, hc2, hs⟩ := oW_bx hs
  by_cases hc3 : r2 = nI 0
  · replace hs := oW_t hs hc3
    simp only [↓hG, ↓hJf, ↓px_vc, ↓px_ex, ↓px_jp, ↓px_gi, ↓px_gl, ↓px_gr, ↓px_s1, ↓px_s2, ↓px_nl, ↓px_i1, ↓px_l1, ↓r1_s, ↓px_q1, ↓px_i2, ↓px_l2, ↓px_il, ↓px_d0, ↓px_d1, ↓px_d2, ↓px_pop, ↓px_sp, ↓px_rd, ↓px_rf, ↓pn_xf, ↓px_pt, ↓px_sw, ↓pn_SW, ↓px_ma, ↓reduceIte, Nat.reduceEqDiff, Nat.reduceAdd, Nat.reduceSub, ↓Option.toList_some, ↓Option.toList_none, ↓List.cons_append, ↓List.nil_append, ↓kI_s, ↓kJ_s, ↓kN_s, ↓kO_s, ↓kZ_s, ↓kE_s, ↓an_rfl, ↓bt1 n00, ↓bt2 n00, ↓bf1 n10, ↓bf2 n10, ↓an_sz0, ↓an_sz1, ↓an_sz2, ↓an_sz3, ↓an_sz4, ↓an_ri, ↓an_rb0, ↓an_rb1, ↓an_b0, ↓an_b1, true_and, ↓ai_0s, ↓al_0s, ↓av_0s, ↓aq_0s, ↓ai_1s, ↓al_1s, ↓av_1s, ↓aq_1s, ↓ai_2s, ↓al_2s, ↓av_2s, ↓aq_2s, ↓ai_3s, ↓al_3s, ↓av_3s, ↓aq_3s, ↓ai_4s, ↓al_4s, ↓av_4s, ↓aq_4s, ↓ai_5s, ↓al_5s, ↓av_5s, ↓aq_5s, ↓ai_6s, ↓al_6s, ↓av_6s, ↓aq_6s, ↓ai_7s, ↓al_7s, ↓av_7s, ↓aq_7s, ↓an_l8, ↓bk_57, ↓Sg_14, ↓Sg_31, ↓kp_57_47, ↓kp_57_49, ↓an_t hc0, ↓an_rv hc0, ↓oW_e hc1, ↓oW_e hc2, ↓bt1 hc3, ↓bt2 hc3]
    exact hs
  · replace hs := oW_f hs hc3
    simp only [↓hG, ↓hJf, ↓px_vc, ↓px_ex, ↓px_jp, ↓px_gi, ↓px_gl, ↓px_gr, ↓px_s1, ↓px_s2, ↓px_nl, ↓px_i1, ↓px_l1, ↓r1_s, ↓px_q1, ↓px_i2, ↓px_l2, ↓px_il, ↓px_d0, ↓px_d1, ↓px_d2, ↓px_pop, ↓px_sp, ↓px_rd, ↓px_rf, ↓pn_xf, ↓px_pt, ↓px_sw, ↓pn_SW, ↓px_ma, ↓reduceIte, Nat.reduceEqDiff, Nat.reduceAdd, Nat.reduceSub, ↓Option.toList_some, ↓Option.toList_none, ↓List.cons_append, ↓List.nil_append, ↓kI_s, ↓kJ_s, ↓kN_s, ↓kO_s, ↓kZ_s, ↓kE_s, ↓an_rfl, ↓bt1 n00, ↓bt2 n00, ↓bf1 n10, ↓bf2 n10, ↓an_sz0, ↓an_sz1, ↓an_sz2, ↓an_sz3, ↓an_sz4, ↓an_ri, ↓an_rb0, ↓an_rb1, ↓an_b0, ↓an_b1, true_and, ↓ai_0s, ↓al_0s, ↓av_0s, ↓aq_0s, ↓ai_1s, ↓al_1s, ↓av_1s, ↓aq_1s, ↓ai_2s, ↓al_2s, ↓av_2s, ↓aq_2s, ↓ai_3s, ↓al_3s, ↓av_3s, ↓aq_3s, ↓ai_4s, ↓al_4s, ↓av_4s, ↓aq_4s, ↓ai_5s, ↓al_5s, ↓av_5s, ↓aq_5s, ↓ai_6s, ↓al_6s, ↓av_6s, ↓aq_6s, ↓ai_7s, ↓al_7s, ↓av_7s, ↓aq_7s, ↓an_l8, ↓bk_57, ↓Sg_14, ↓Sg_31, ↓kp_57_47, ↓kp_57_49, ↓an_t hc0, ↓an_rv hc0, ↓oW_e hc1, ↓oW_e hc2, ↓bf1 hc3, ↓bf2 hc3]
    exact hs
set_option maxHeartbeats 4000000 in
set_option maxRecDepth 100000 in
theorem rl_57_22 {C : px_C} (hn : px_nd (px_tb C)) {h : Nat} (hh : 32 ≤ h) (hC : px_ok C pn_i57 h) {k : Option px_V → px_M → Prop} {σ : px_M} (hs : oW (f_57_22 (px_tb C) σ) (fun q => k (some (.inl q.1)) q.2)) : ∀ (z0 : Option px_V) (z1 : Option px_V) (z2 : Option px_V) (z3 : Option px_V) (z4 : Option px_V) (z5 : Option px_V) (z6 : Option px_V) (z7 : Option px_V), px_W C k 22 [z0, z1, z2, z3, z4, z5, z6, z7] [] σ := by
  intro z0 z1 z2 z3 z4 z5 z6 z7
  refine px_runH (h - 1) ck_57 [] [] 80 8 (some .int) rfl rfl hC px_nosp (by omega) px_nocut (fun G Jf hG hJf => ?_)
  unfold f_57_22 at hs
  simp only [↓hG, ↓hJf, ↓px_vc, ↓px_ex, ↓px_jp, ↓px_gi, ↓px_gl, ↓px_gr, ↓px_s1, ↓px_s2, ↓px_nl, ↓px_i1, ↓px_l1, ↓r1_s, ↓px_q1, ↓px_i2, ↓px_l2, ↓px_il, ↓px_d0, ↓px_d1, ↓px_d2, ↓px_pop, ↓px_sp, ↓px_rd, ↓px_rf, ↓pn_xf, ↓px_pt, ↓px_sw, ↓pn_SW, ↓px_ma, ↓reduceIte, Nat.reduceEqDiff, Nat.reduceAdd, Nat.reduceSub, ↓Option.toList_some, ↓Option.toList_none, ↓List.cons_append, ↓List.nil_append, ↓kI_s, ↓kJ_s, ↓kN_s, ↓kO_s, ↓kZ_s, ↓kE_s, ↓an_rfl, ↓bt1 n00, ↓bt2 n00, ↓bf1 n10, ↓bf2 n10, ↓an_sz0, ↓an_sz1, ↓an_sz2, ↓an_sz3, ↓an_sz4, ↓an_ri, ↓an_rb0, ↓an_rb1, ↓an_b0, ↓an_b1, true_and, ↓ai_0s, ↓al_0s, ↓av_0s, ↓aq_0s, ↓ai_1s, ↓al_1s, ↓av_1s, ↓aq_1s, ↓ai_2s, ↓al_2s, ↓av_2s, ↓aq_2s, ↓ai_3s, ↓al_3s, ↓av_3s, ↓aq_3s, ↓ai_4s, ↓al_4s, ↓av_4s, ↓aq_4s, ↓ai_5s, ↓al_5s, ↓av_5s, ↓aq_5s, ↓ai_6s, ↓al_6s, ↓av_6s, ↓aq_6s, ↓ai_7s, ↓al_7s, ↓av_7s, ↓aq_7s, ↓an_l8, ↓bk_57]
  rw [oW_some] at hs
  exact hs
set_option maxHeartbeats 4000000 in
set_option maxRecDepth 100000 in
theorem rl_57_16 {C : px_C} (hn : px_nd (px_tb C)) {h : Nat} (hh : 32 ≤ h) (hC : px_ok C pn_i57 h) {k : Option px_V → px_M → Prop} {x0 : Nat} {x1 : Int64} {x3 : Int64} {σ : px_M} (hs : oW (f_57_16 (px_tb C) σ x0 x1 x3) (fun q => k (some (.inl q.1)) q.2)) : ∀ (z5 : Option px_V) (z6 : Option px_V) (z7 : Option px_V), px_W C k 16 [some (.inr (.inr (some x0))), some (.inr (.inl x1)), none, some (.inr (.inl x3)), none, z5, z6, z7] [] σ := by
  intro z5 z6 z7
  refine px_runH (h - 1) ck_57 [] [(22, kp_57_22 (fun τ => oW (f_57_22 (px_tb C) τ) (fun q => k (some (.inl q.1)) q.2))), (28, kp_57_28 (fun y0 y3 y5 τ => oW (f_57_28 (px_tb C) τ y0 y3 y5) (fun q => k (some (.inl q.1)) q.2)))] 80 8 (some .int) rfl rfl hC px_nosp (by omega) (px_cut1 (kq_57_22 (fun τ hq => by exact rl_57_22 hn (by omega) hC  hq)) (px_cut1 (kq_57_28 (fun y0 y3 y5 τ hq => by exact rl_57_28 hn (by omega) hC  hq)) px_nocut)) (fun G Jf hG hJf => ?_)
  unfold f_57_16 at hs
  by_cases hc0 : x1 = x3
  · replace hs := bW_t hs hc0
    simp only [↓hG, ↓hJf, ↓px_vc, ↓px_ex, ↓px_jp, ↓px_gi, ↓px_gl, ↓px_gr, ↓px_s1, ↓px_s2, ↓px_nl, ↓px_i1, ↓px_l1, ↓r1_s, ↓px_q1, ↓px_i2, ↓px_l2, ↓px_il, ↓px_d0, ↓px_d1, ↓px_d2, ↓px_pop, ↓px_sp, ↓px_rd, ↓px_rf, ↓pn_xf, ↓px_pt, ↓px_sw, ↓pn_SW, ↓px_ma, ↓reduceIte, Nat.reduceEqDiff, Nat.reduceAdd, Nat.reduceSub, ↓Option.toList_some, ↓Option.toList_none, ↓List.cons_append, ↓List.nil_append, ↓kI_s, ↓kJ_s, ↓kN_s, ↓kO_s, ↓kZ_s, ↓kE_s, ↓an_rfl, ↓bt1 n00, ↓bt2 n00, ↓bf1 n10, ↓bf2 n10, ↓an_sz0, ↓an_sz1, ↓an_sz2, ↓an_sz3, ↓an_sz4, ↓an_ri, ↓an_rb0, ↓an_rb1, ↓an_b0, ↓an_b1, true_and, ↓ai_0s, ↓al_0s, ↓av_0s, ↓aq_0s, ↓ai_1s, ↓al_1s, ↓av_1s, ↓aq_1s, ↓ai_2s, ↓al_2s, ↓av_2s, ↓aq_2s, ↓ai_3s, ↓al_3s, ↓av_3s, ↓aq_3s, ↓ai_4s, ↓al_4s, ↓av_4s, ↓aq_4s, ↓ai_5s, ↓al_5s, ↓av_5s, ↓aq_5s, ↓ai_6s, ↓al_6s, ↓av_6s, ↓aq_6s, ↓ai_7s, ↓al_7s, ↓av_7s, ↓aq_7s, ↓an_l8, ↓bk_57, ↓kp_57_22, ↓kp_57_28, ↓bt1 ((lc_eq _ _).mpr hc0), ↓bt2 ((lc_eq _ _).mpr hc0)]
    exact hs
  · replace hs := bW_f hs hc0
    simp only [↓hG, ↓hJf, ↓px_vc, ↓px_ex, ↓px_jp, ↓px_gi, ↓px_gl, ↓px_gr, ↓px_s1, ↓px_s2, ↓px_nl, ↓px_i1, ↓px_l1, ↓r1_s, ↓px_q1, ↓px_i2, ↓px_l2, ↓px_il, ↓px_d0, ↓px_d1, ↓px_d2, ↓px_pop, ↓px_sp, ↓px_rd, ↓px_rf, ↓pn_xf, ↓px_pt, ↓px_sw, ↓pn_SW, ↓px_ma, ↓reduceIte, Nat.reduceEqDiff, Nat.reduceAdd, Nat.reduceSub, ↓Option.toList_some, ↓Option.toList_none, ↓List.cons_append, ↓List.nil_append, ↓kI_s, ↓kJ_s, ↓kN_s, ↓kO_s, ↓kZ_s, ↓kE_s, ↓an_rfl, ↓bt1 n00, ↓bt2 n00, ↓bf1 n10, ↓bf2 n10, ↓an_sz0, ↓an_sz1, ↓an_sz2, ↓an_sz3, ↓an_sz4, ↓an_ri, ↓an_rb0, ↓an_rb1, ↓an_b0, ↓an_b1, true_and, ↓ai_0s, ↓al_0s, ↓av_0s, ↓aq_0s, ↓ai_1s, ↓al_1s, ↓av_1s, ↓aq_1s, ↓ai_2s, ↓al_2s, ↓av_2s, ↓aq_2s, ↓ai_3s, ↓al_3s, ↓av_3s, ↓aq_3s, ↓ai_4s, ↓al_4s, ↓av_4s, ↓aq_4s, ↓ai_5s, ↓al_5s, ↓av_5s, ↓aq_5s, ↓ai_6s, ↓al_6s, ↓av_6s, ↓aq_6s, ↓ai_7s, ↓al_7s, ↓av_7s, ↓aq_7s, ↓an_l8, ↓bk_57, ↓kp_57_22, ↓kp_57_28, ↓bf1 (fun q => hc0 ((lc_eq _ _).mp q)), ↓bf2 (fun q => hc0 ((lc_eq _ _).mp q))]
    exact hs
set_option maxHeartbeats 4000000 in
set_option maxRecDepth 100000 in
theorem mf_57 {tab : px_T} (hn : px_nd tab) {h : Nat} (hh : 32 ≤ h) : px_Ok tab pn_i57 h (Sg_57 (f_57 tab)) := by
  refine px_mth hn (by decide +kernel) (fun av σ k hS => ?_) (fun C hT hC av σ k hS => ?_)
  · obtain ⟨x0, av0, e0, h0⟩ := av_0p hS
    obtain ⟨x1, av1, e1, h1⟩ := al_1p h0
    obtain ⟨x3, av2, e2, h2⟩ := al_2p h1
    obtain ⟨ez, hs⟩ := h2
    subst ez
    subst e2
    subst e1
    subst e0
    exact Nat.le_of_ble_eq_true rfl
  · obtain ⟨x0, av0, e0, h0⟩ := av_0p hS
    obtain ⟨x1, av1, e1, h1⟩ := al_1p h0
    obtain ⟨x3, av2, e2, h2⟩ := al_2p h1
    obtain ⟨ez, hs⟩ := h2
    subst ez
    subst e2
    subst e1
    subst e0
    subst hT
    show px_W C k 0 [some (.inr (.inr (some x0))), some (.inr (.inl x1)), none, some (.inr (.inl x3)), none, none, none, none] [] σ
    refine px_runH (h - 1) ck_57 [(30, Sg_30 (f_30 (px_tb C)))] [(16, kp_57_16 (fun y0 y1 y3 τ => oW (f_57_16 (px_tb C) τ y0 y1 y3) (fun q => k (some (.inl q.1)) q.2))), (22, kp_57_22 (fun τ => oW (f_57_22 (px_tb C) τ) (fun q => k (some (.inl q.1)) q.2)))] 80 8 (some .int) rfl rfl hC (px_sp1 (mf_30 hn (by omega)) px_nosp) (by omega) (px_cut1 (kq_57_16 (fun y0 y1 y3 τ hq => by exact rl_57_16 hn (by omega) hC  hq)) (px_cut1 (kq_57_22 (fun τ hq => by exact rl_57_22 hn (by omega) hC  hq)) px_nocut)) (fun G Jf hG hJf => ?_)
    unfold f_57 at hs
    obtain ⟨hc0, hs⟩ := oW_gx hs
    obtain ⟨r1, hc1, hs⟩ := oW_bx hs
    by_cases hc2 : r1 = nI 0
    · replace hs := oW_t hs hc2
      simp only [↓hG, ↓hJf, ↓px_vc, ↓px_ex, ↓px_jp, ↓px_gi, ↓px_gl, ↓px_gr, ↓px_s1, ↓px_s2, ↓px_nl, ↓px_i1, ↓px_l1, ↓r1_s, ↓px_q1, ↓px_i2, ↓px_l2, ↓px_il, ↓px_d0, ↓px_d1, ↓px_d2, ↓px_pop, ↓px_sp, ↓px_rd, ↓px_rf, ↓pn_xf, ↓px_pt, ↓px_sw, ↓pn_SW, ↓px_ma, ↓reduceIte, Nat.reduceEqDiff, Nat.reduceAdd, Nat.reduceSub, ↓Option.toList_some, ↓Option.toList_none, ↓List.cons_append, ↓List.nil_append, ↓kI_s, ↓kJ_s, ↓kN_s, ↓kO_s, ↓kZ_s, ↓kE_s, ↓an_rfl, ↓bt1 n00, ↓bt2 n00, ↓bf1 n10, ↓bf2 n10, ↓an_sz0, ↓an_sz1, ↓an_sz2, ↓an_sz3, ↓an_sz4, ↓an_ri, ↓an_rb0, ↓an_rb1, ↓an_b0, ↓an_b1, true_and, ↓ai_0s, ↓al_0s, ↓av_0s, ↓aq_0s, ↓ai_1s, ↓al_1s, ↓av_1s, ↓aq_1s, ↓ai_2s, ↓al_2s, ↓av_2s, ↓aq_2s, ↓ai_3s, ↓al_3s, ↓av_3s, ↓aq_3s, ↓ai_4s, ↓al_4s, ↓av_4s, ↓aq_4s, ↓ai_5s, ↓al_5s, ↓av_5s, ↓aq_5s, ↓ai_6s, ↓al_6s, ↓av_6s, ↓aq_6s, ↓ai_7s, ↓al_7s, ↓av_7s, ↓aq_7s, ↓an_l8, ↓bk_57, ↓Sg_30, ↓kp_57_16, ↓kp_57_22, ↓an_t hc0, ↓an_rv hc0, ↓oW_e hc1, ↓bt1 hc2, ↓bt2 hc2]
      exact hs
    · replace hs := oW_f hs hc2
      obtain ⟨r2, hc3, hs⟩ := oW_bx hs
      by_cases hc4 : r2 = nI 0
      · replace hs := oW_t hs hc4
        simp only [↓hG, ↓hJf, ↓px_vc, ↓px_ex, ↓px_jp, ↓px_gi, ↓px_gl, ↓px_gr, ↓px_s1, ↓px_s2, ↓px_nl, ↓px_i1, ↓px_l1, ↓r1_s, ↓px_q1, ↓px_i2, ↓px_l2, ↓px_il, ↓px_d0, ↓px_d1, ↓px_d2, ↓px_pop, ↓px_sp, ↓px_rd, ↓px_rf, ↓pn_xf, ↓px_pt, ↓px_sw, ↓pn_SW, ↓px_ma, ↓reduceIte, Nat.reduceEqDiff, Nat.reduceAdd, Nat.reduceSub, ↓Option.toList_some, ↓Option.toList_none, ↓List.cons_append, ↓List.nil_append, ↓kI_s, ↓kJ_s, ↓kN_s, ↓kO_s, ↓kZ_s, ↓kE_s, ↓an_rfl, ↓bt1 n00, ↓bt2 n00, ↓bf1 n10, ↓bf2 n10, ↓an_sz0, ↓an_sz1, ↓an_sz2, ↓an_sz3, ↓an_sz4, ↓an_ri, ↓an_rb0, ↓an_rb1, ↓an_b0, ↓an_b1, true_and, ↓ai_0s, ↓al_0s, ↓av_0s, ↓aq_0s, ↓ai_1s, ↓al_1s, ↓av_1s, ↓aq_1s, ↓ai_2s, ↓al_2s, ↓av_2s, ↓aq_2s, ↓ai_3s, ↓al_3s, ↓av_3s, ↓aq_3s, ↓ai_4s, ↓al_4s, ↓av_4s, ↓aq_4s, ↓ai_5s, ↓al_5s, ↓av_5s, ↓aq_5s, ↓ai_6s, ↓al_6s, ↓av_6s, ↓aq_6s, ↓ai_7s, ↓al_7s, ↓av_7s, ↓aq_7s, ↓an_l8, ↓bk_57, ↓Sg_30, ↓kp_57_16, ↓kp_57_22, ↓an_t hc0, ↓an_rv hc0, ↓oW_e hc1, ↓bf1 hc2, ↓bf2 hc2, ↓oW_e hc3, ↓bt1 hc4, ↓bt2 hc4]
        exact hs
      · replace hs := oW_f hs hc4
        simp only [↓hG, ↓hJf, ↓px_vc, ↓px_ex, ↓px_jp, ↓px_gi, ↓px_gl, ↓px_gr, ↓px_s1, ↓px_s2, ↓px_nl, ↓px_i1, ↓px_l1, ↓r1_s, ↓px_q1, ↓px_i2, ↓px_l2, ↓px_il, ↓px_d0, ↓px_d1, ↓px_d2, ↓px_pop, ↓px_sp, ↓px_rd, ↓px_rf, ↓pn_xf, ↓px_pt, ↓px_sw, ↓pn_SW, ↓px_ma, ↓reduceIte, Nat.reduceEqDiff, Nat.reduceAdd, Nat.reduceSub, ↓Option.toList_some, ↓Option.toList_none, ↓List.cons_append, ↓List.nil_append, ↓kI_s, ↓kJ_s, ↓kN_s, ↓kO_s, ↓kZ_s, ↓kE_s, ↓an_rfl, ↓bt1 n00, ↓bt2 n00, ↓bf1 n10, ↓bf2 n10, ↓an_sz0, ↓an_sz1, ↓an_sz2, ↓an_sz3, ↓an_sz4, ↓an_ri, ↓an_rb0, ↓an_rb1, ↓an_b0, ↓an_b1, true_and, ↓ai_0s, ↓al_0s, ↓av_0s, ↓aq_0s, ↓ai_1s, ↓al_1s, ↓av_1s, ↓aq_1s, ↓ai_2s, ↓al_2s, ↓av_2s, ↓aq_2s, ↓ai_3s, ↓al_3s, ↓av_3s, ↓aq_3s, ↓ai_4s, ↓al_4s, ↓av_4s, ↓aq_4s, ↓ai_5s, ↓al_5s, ↓av_5s, ↓aq_5s, ↓ai_6s, ↓al_6s, ↓av_6s, ↓aq_6s, ↓ai_7s, ↓al_7s, ↓av_7s, ↓aq_7s, ↓an_l8, ↓bk_57, ↓Sg_30, ↓kp_57_16, ↓kp_57_22, ↓an_t hc0, ↓an_rv hc0, ↓oW_e hc1, ↓bf1 hc2, ↓bf2 hc2, ↓oW_e hc3, ↓bf1 hc4, ↓bf2 hc4]
        exact hs
def Sg_58 (g : px_M → Nat → Option (px_M)) : px_S := fun av σ k => av_0 av (fun x0 av => av = [] ∧ oW (g σ x0) (fun τ => k none τ))
/-- NoThreeModel.notes()V -/
noncomputable def F_58_58 (tab : px_T) (x0 : Nat) (x1 : Int32) (σ : px_M) : Option ((Int32 × px_M) ⊕ (px_M)) := if (nI 12) ≤ x1 then (gd (px_obj (px_lay tab x0) 0) ((((σ).2.2 x0 1)).bind fun n1 => oA (px_lay tab n1) fun t2 l3 => gd (t2 = 0 ∨ t2 = 11) (gd (vp_in (nI 13) l3) (gd (t2 = 0) (some (.inr ((px_wi σ n1 ((nI 13)).toNatClampNeg ((px_av t2 σ n1 ((nI 13)).toNatClampNeg) + (nI 1)))))))))) else (gd (px_obj (px_lay tab x0) 0) ((((σ).2.2 x0 1)).bind fun n4 => oA (px_lay tab n4) fun t5 l6 => gd (t5 = 0 ∨ t5 = 11) (gd (vp_in (nI 13) l6) (gd (vp_in ((nI 1) + x1) l6) (gd (t5 = 0) (gd (vp_in (((nI 14) + ((nI 12) * (px_av t5 σ n4 ((nI 13)).toNatClampNeg))) + x1) l6) (some (.inl (((x1 + (nI 1)), (px_wi σ n4 ((((nI 14) + ((nI 12) * (px_av t5 σ n4 ((nI 13)).toNatClampNeg))) + x1)).toNatClampNeg (px_av t5 σ n4 (((nI 1) + x1)).toNatClampNeg))))))))))))
noncomputable def f_58_58 (tab : px_T) (x0 : Nat) (x1 : Int32) (σ : px_M) : Option (px_M) := lpO (fun s : Int32 × px_M => F_58_58 tab x0 s.1 s.2) (x1, σ)
theorem f_58_58_eq (tab : px_T) (x0 : Nat) (x1 : Int32) (σ : px_M) : f_58_58 tab x0 x1 σ = (F_58_58 tab x0 x1 σ).bind (Sum.elim (fun s => f_58_58 tab x0 s.1 s.2) some) := lpO_eq _ _
noncomputable def F_58_14 (tab : px_T) (x0 : Nat) (x1 : Int32) (σ : px_M) : Option ((Int32 × px_M) ⊕ (px_M)) := if (nI 132) ≤ x1 then (gd (px_obj (px_lay tab x0) 0) ((((σ).2.2 x0 1)).bind fun n1 => oA (px_lay tab n1) fun t2 l3 => gd (t2 = 0 ∨ t2 = 11) (gd (vp_in (nI 13) l3) (gd (t2 = 0) (Option.map Sum.inr (f_58_58 tab x0 ((nI 0)) ((px_wi σ n1 ((nI 13)).toNatClampNeg ((px_av t2 σ n1 ((nI 13)).toNatClampNeg) - (nI 1)))))))))) else (gd (px_obj (px_lay tab x0) 0) ((((σ).2.2 x0 1)).bind fun n4 => oA (px_lay tab n4) fun t5 l6 => gd (t5 = 0 ∨ t5 = 11) (gd (vp_in ((nI 26) + x1) l6) (gd (t5 = 0) (gd (vp_in ((nI 14) + x1) l6) (some (.inl (((x1 + (nI 1)), (px_wi σ n4 (((nI 14) + x1)).toNatClampNeg (px_av t5 σ n4 (((nI 26) + x1)).toNatClampNeg)))))))))))
noncomputable def f_58_14 (tab : px_T) (x0 : Nat) (x1 : Int32) (σ : px_M) : Option (px_M) := lpO (fun s : Int32 × px_M => F_58_14 tab x0 s.1 s.2) (x1, σ)
theorem f_58_14_eq (tab : px_T) (x0 : Nat) (x1 : Int32) (σ : px_M) : f_58_14 tab x0 x1 σ = (F_58_14 tab x0 x1 σ).bind (Sum.elim (fun s => f_58_14 tab x0 s.1 s.2) some) := lpO_eq _ _
noncomputable def f_58 (tab : px_T) (σ : px_M) (x0 : Nat) : Option (px_M) := gd (px_obj (px_lay tab x0) 0) ((((σ).2.2 x0 1)).bind fun n1 => oA (px_lay tab n1) fun t2 l3 => gd (t2 = 0 ∨ t2 = 11) (gd (vp_in (nI 13) l3) (bn ((px_av t2 σ n1 ((nI 13)).toNatClampNeg) = (nI 12)) (f_58_58 tab x0 ((nI 0)) σ) (f_58_14 tab x0 ((nI 0)) σ))))
def kp_58_58 (Q : Nat → Int32 → px_M → Prop) : px_P := fun ls st τ => st = [] ∧ kN ls (fun x0 ls => kI ls (fun x1 ls => kE ls (Q x0 x1 τ)))
theorem kq_58_58 {C : px_C} {k : Option px_V → px_M → Prop} {Q : Nat → Int32 → px_M → Prop} (H : ∀ (x0 : Nat) (x1 : Int32) (τ : px_M), Q x0 x1 τ → px_W C k 58 [some (.inr (.inr (some x0))), some (.inl x1)] [] τ) : ∀ ls st τ, kp_58_58 Q ls st τ → px_W C k 58 ls st τ := by
  intro ls st τ hz
  obtain ⟨ez, h0⟩ := hz
  obtain ⟨x0, l0, e0, h1⟩ := kN_sp h0
  obtain ⟨x1, l1, e1, h2⟩ := kI_sp h1
  obtain ⟨ey, hy⟩ := kE_sp h2
  subst ez
  subst ey
  subst e1
  subst e0
  exact H x0 x1 τ hy
def kp_58_14 (Q : Nat → Int32 → px_M → Prop) : px_P := fun ls st τ => st = [] ∧ kN ls (fun x0 ls => kI ls (fun x1 ls => kE ls (Q x0 x1 τ)))
theorem kq_58_14 {C : px_C} {k : Option px_V → px_M → Prop} {Q : Nat → Int32 → px_M → Prop} (H : ∀ (x0 : Nat) (x1 : Int32) (τ : px_M), Q x0 x1 τ → px_W C k 14 [some (.inr (.inr (some x0))), some (.inl x1)] [] τ) : ∀ ls st τ, kp_58_14 Q ls st τ → px_W C k 14 ls st τ := by
  intro ls st τ hz
  obtain ⟨ez, h0⟩ := hz
  obtain ⟨x0, l0, e0, h1⟩ := kN_sp h0
  obtain ⟨x1, l1, e1, h2⟩ := kI_sp h1
  obtain ⟨ey, hy⟩ := kE_sp h2
  subst ez
  subst ey
  subst e1
  subst e0
  exact H x0 x1 τ hy
set_option maxHeartbeats 4000000 in
set_option maxRecDepth 100000 in
theorem rl_58_58 {C : px_C} (hn : px_nd (px_tb C)) {h : Nat} (hh : 1 ≤ h) (hC : px_ok C pn_i58 h) {k : Option px_V → px_M → Prop} {x0 : Nat} : ∀ s : Int32 × px_M, oW (f_58_58 (px_tb C) x0 s.1 s.2) (fun τ => k none τ) → (fun s : Int32 × px_M => px_W C k 58 [some (.inr (.inr (some x0))), some (.inl s.1)] [] s.2) s := by
  intro s h0
  refine lpO_sound (P := (fun s : Int32 × px_M => px_W C k 58 [some (.inr (.inr (some x0))), some (.inl s.1)] [] s.2)) (fun s hs => ?_) h0
  obtain ⟨x1, σ⟩ := s
  refine px_runH (h - 1) ck_58 [] [(58, kp_58_58 (fun y0 y1 τ => y0 = x0 ∧ (fun s : Int32 × px_M => px_W C k 58 [some (.inr (.inr (some x0))), some (.inl s.1)] [] s.2) (y1, τ)))] 80 2 none rfl rfl hC px_nosp (by omega) (px_cut1 (kq_58_58 (fun y0 y1 τ hq => by obtain ⟨rfl, hq⟩ := hq; exact hq)) px_nocut) (fun G Jf hG hJf => ?_)
  replace hs : oW (F_58_58 (px_tb C) x0 x1 σ) _ := hs
  unfold F_58_58 at hs
  by_cases hc0 : (nI 12) ≤ x1
  · replace hs := oW_t hs hc0
    obtain ⟨hc1, hs⟩ := oW_gx hs
    obtain ⟨n1, hc2, hs⟩ := oW_bx hs
    obtain ⟨t2, l3, hc3, hs⟩ := oW_ax hs
    obtain ⟨hc4, hs⟩ := oW_gx hs
    obtain ⟨hc5, hs⟩ := oW_gx hs
    obtain ⟨hc6, hs⟩ := oW_gx hs
    simp only [↓hG, ↓hJf, ↓px_vc, ↓px_ex, ↓px_jp, ↓px_gi, ↓px_gl, ↓px_gr, ↓px_s1, ↓px_s2, ↓px_nl, ↓px_i1, ↓px_l1, ↓r1_s, ↓px_q1, ↓px_i2, ↓px_l2, ↓px_il, ↓px_d0, ↓px_d1, ↓px_d2, ↓px_pop, ↓px_sp, ↓px_rd, ↓px_rf, ↓pn_xf, ↓px_pt, ↓px_sw, ↓pn_SW, ↓px_ma, ↓reduceIte, Nat.reduceEqDiff, Nat.reduceAdd, Nat.reduceSub, ↓Option.toList_some, ↓Option.toList_none, ↓List.cons_append, ↓List.nil_append, ↓kI_s, ↓kJ_s, ↓kN_s, ↓kO_s, ↓kZ_s, ↓kE_s, ↓an_rfl, ↓bt1 n00, ↓bt2 n00, ↓bf1 n10, ↓bf2 n10, ↓an_sz0, ↓an_sz1, ↓an_sz2, ↓an_sz3, ↓an_sz4, ↓an_ri, ↓an_rb0, ↓an_rb1, ↓an_b0, ↓an_b1, true_and, ↓ai_0s, ↓al_0s, ↓av_0s, ↓aq_0s, ↓ai_1s, ↓al_1s, ↓av_1s, ↓aq_1s, ↓ai_2s, ↓al_2s, ↓av_2s, ↓aq_2s, ↓ai_3s, ↓al_3s, ↓av_3s, ↓aq_3s, ↓ai_4s, ↓al_4s, ↓av_4s, ↓aq_4s, ↓ai_5s, ↓al_5s, ↓av_5s, ↓aq_5s, ↓ai_6s, ↓al_6s, ↓av_6s, ↓aq_6s, ↓ai_7s, ↓al_7s, ↓av_7s, ↓aq_7s, ↓an_l2, ↓bk_58, ↓kp_58_58, ↓bt1 hc0, ↓bt2 hc0, ↓an_t hc1, ↓an_rv hc1, ↓r1_e hc2, ↓av_0e hc2, ↓av_1e hc2, ↓av_2e hc2, ↓av_3e hc2, ↓ar_e hc3, ↓an_t hc4, ↓an_t hc5, ↓an_t hc6]
    rw [oW_some] at hs
    exact hs
  · replace hs := oW_f hs hc0
    obtain ⟨hc1, hs⟩ := oW_gx hs
    obtain ⟨n4, hc2, hs⟩ := oW_bx hs
    obtain ⟨t5, l6, hc3, hs⟩ := oW_ax hs
    obtain ⟨hc4, hs⟩ := oW_gx hs
    obtain ⟨hc5, hs⟩ := oW_gx hs
    obtain ⟨hc6, hs⟩ := oW_gx hs
    obtain ⟨hc7, hs⟩ := oW_gx hs
    obtain ⟨hc8, hs⟩ := oW_gx hs
    simp only [↓hG, ↓hJf, ↓px_vc, ↓px_ex, ↓px_jp, ↓px_gi, ↓px_gl, ↓px_gr, ↓px_s1, ↓px_s2, ↓px_nl, ↓px_i1, ↓px_l1, ↓r1_s, ↓px_q1, ↓px_i2, ↓px_l2, ↓px_il, ↓px_d0, ↓px_d1, ↓px_d2, ↓px_pop, ↓px_sp, ↓px_rd, ↓px_rf, ↓pn_xf, ↓px_pt, ↓px_sw, ↓pn_SW, ↓px_ma, ↓reduceIte, Nat.reduceEqDiff, Nat.reduceAdd, Nat.reduceSub, ↓Option.toList_some, ↓Option.toList_none, ↓List.cons_append, ↓List.nil_append, ↓kI_s, ↓kJ_s, ↓kN_s, ↓kO_s, ↓kZ_s, ↓kE_s, ↓an_rfl, ↓bt1 n00, ↓bt2 n00, ↓bf1 n10, ↓bf2 n10, ↓an_sz0, ↓an_sz1, ↓an_sz2, ↓an_sz3, ↓an_sz4, ↓an_ri, ↓an_rb0, ↓an_rb1, ↓an_b0, ↓an_b1, true_and, ↓ai_0s, ↓al_0s, ↓av_0s, ↓aq_0s, ↓ai_1s, ↓al_1s, ↓av_1s, ↓aq_1s, ↓ai_2s, ↓al_2s, ↓av_2s, ↓aq_2s, ↓ai_3s, ↓al_3s, ↓av_3s, ↓aq_3s, ↓ai_4s, ↓al_4s, ↓av_4s, ↓aq_4s, ↓ai_5s, ↓al_5s, ↓av_5s, ↓aq_5s, ↓ai_6s, ↓al_6s, ↓av_6s, ↓aq_6s, ↓ai_7s, ↓al_7s, ↓av_7s, ↓aq_7s, ↓an_l2, ↓bk_58, ↓kp_58_58, ↓bf1 hc0, ↓bf2 hc0, ↓an_t hc1, ↓an_rv hc1, ↓r1_e hc2, ↓av_0e hc2, ↓av_1e hc2, ↓av_2e hc2, ↓av_3e hc2, ↓ar_e hc3, ↓an_t hc4, ↓an_t hc5, ↓an_t hc6, ↓an_t hc7, ↓an_t hc8]
    rw [oW_some] at hs
    exact hs
set_option maxHeartbeats 4000000 in
set_option maxRecDepth 100000 in
theorem rl_58_14 {C : px_C} (hn : px_nd (px_tb C)) {h : Nat} (hh : 1 ≤ h) (hC : px_ok C pn_i58 h) {k : Option px_V → px_M → Prop} {x0 : Nat} : ∀ s : Int32 × px_M, oW (f_58_14 (px_tb C) x0 s.1 s.2) (fun τ => k none τ) → (fun s : Int32 × px_M => px_W C k 14 [some (.inr (.inr (some x0))), some (.inl s.1)] [] s.2) s := by
  intro s h0
  refine lpO_sound (P := (fun s : Int32 × px_M => px_W C k 14 [some (.inr (.inr (some x0))), some (.inl s.1)] [] s.2)) (fun s hs => ?_) h0
  obtain ⟨x1, σ⟩ := s
  refine px_runH (h - 1) ck_58 [] [(14, kp_58_14 (fun y0 y1 τ => y0 = x0 ∧ (fun s : Int32 × px_M => px_W C k 14 [some (.inr (.inr (some x0))), some (.inl s.1)] [] s.2) (y1, τ))), (58, kp_58_58 (fun y0 y1 τ => oW (f_58_58 (px_tb C) y0 y1 τ) (fun τ => k none τ)))] 80 2 none rfl rfl hC px_nosp (by omega) (px_cut1 (kq_58_14 (fun y0 y1 τ hq => by obtain ⟨rfl, hq⟩ := hq; exact hq)) (px_cut1 (kq_58_58 (fun y0 y1 τ hq => by exact rl_58_58 hn (by omega) hC (y1, τ) hq)) px_nocut)) (fun G Jf hG hJf => ?_)
  replace hs : oW (F_58_14 (px_tb C) x0 x1 σ) _ := hs
  unfold F_58_14 at hs
  by_cases hc0 : (nI 132) ≤ x1
  · replace hs := oW_t hs hc0
    obtain ⟨hc1, hs⟩ := oW_gx hs
    obtain ⟨n1, hc2, hs⟩ := oW_bx hs
    obtain ⟨t2, l3, hc3, hs⟩ := oW_ax hs
    obtain ⟨hc4, hs⟩ := oW_gx hs
    obtain ⟨hc5, hs⟩ := oW_gx hs
    obtain ⟨hc6, hs⟩ := oW_gx hs
    simp only [↓hG, ↓hJf, ↓px_vc, ↓px_ex, ↓px_jp, ↓px_gi, ↓px_gl, ↓px_gr, ↓px_s1, ↓px_s2, ↓px_nl, ↓px_i1, ↓px_l1, ↓r1_s, ↓px_q1, ↓px_i2, ↓px_l2, ↓px_il, ↓px_d0, ↓px_d1, ↓px_d2, ↓px_pop, ↓px_sp, ↓px_rd, ↓px_rf, ↓pn_xf, ↓px_pt, ↓px_sw, ↓pn_SW, ↓px_ma, ↓reduceIte, Nat.reduceEqDiff, Nat.reduceAdd, Nat.reduceSub, ↓Option.toList_some, ↓Option.toList_none, ↓List.cons_append, ↓List.nil_append, ↓kI_s, ↓kJ_s, ↓kN_s, ↓kO_s, ↓kZ_s, ↓kE_s, ↓an_rfl, ↓bt1 n00, ↓bt2 n00, ↓bf1 n10, ↓bf2 n10, ↓an_sz0, ↓an_sz1, ↓an_sz2, ↓an_sz3, ↓an_sz4, ↓an_ri, ↓an_rb0, ↓an_rb1, ↓an_b0, ↓an_b1, true_and, ↓ai_0s, ↓al_0s, ↓av_0s, ↓aq_0s, ↓ai_1s, ↓al_1s, ↓av_1s, ↓aq_1s, ↓ai_2s, ↓al_2s, ↓av_2s, ↓aq_2s, ↓ai_3s, ↓al_3s, ↓av_3s, ↓aq_3s, ↓ai_4s, ↓al_4s, ↓av_4s, ↓aq_4s, ↓ai_5s, ↓al_5s, ↓av_5s, ↓aq_5s, ↓ai_6s, ↓al_6s, ↓av_6s, ↓aq_6s, ↓ai_7s, ↓al_7s, ↓av_7s, ↓aq_7s, ↓an_l2, ↓bk_58, ↓kp_58_14, ↓kp_58_58, ↓bt1 hc0, ↓bt2 hc0, ↓an_t hc1, ↓an_rv hc1, ↓r1_e hc2, ↓av_0e hc2, ↓av_1e hc2, ↓av_2e hc2, ↓av_3e hc2, ↓ar_e hc3, ↓an_t hc4, ↓an_t hc5, ↓an_t hc6]
    simp only [oW_map] at hs
    exact hs
  · replace hs := oW_f hs hc0
    obtain ⟨hc1, hs⟩ := oW_gx hs
    obtain ⟨n4, hc2, hs⟩ := oW_bx hs
    obtain ⟨t5, l6, hc3, hs⟩ := oW_ax hs
    obtain ⟨hc4, hs⟩ := oW_gx hs
    obtain ⟨hc5, hs⟩ := oW_gx hs
    obtain ⟨hc6, hs⟩ := oW_gx hs
    obtain ⟨hc7, hs⟩ := oW_gx hs
    simp only [↓hG, ↓hJf, ↓px_vc, ↓px_ex, ↓px_jp, ↓px_gi, ↓px_gl, ↓px_gr, ↓px_s1, ↓px_s2, ↓px_nl, ↓px_i1, ↓px_l1, ↓r1_s, ↓px_q1, ↓px_i2, ↓px_l2, ↓px_il, ↓px_d0, ↓px_d1, ↓px_d2, ↓px_pop, ↓px_sp, ↓px_rd, ↓px_rf, ↓pn_xf, ↓px_pt, ↓px_sw, ↓pn_SW, ↓px_ma, ↓reduceIte, Nat.reduceEqDiff, Nat.reduceAdd, Nat.reduceSub, ↓Option.toList_some, ↓Option.toList_none, ↓List.cons_append, ↓List.nil_append, ↓kI_s, ↓kJ_s, ↓kN_s, ↓kO_s, ↓kZ_s, ↓kE_s, ↓an_rfl, ↓bt1 n00, ↓bt2 n00, ↓bf1 n10, ↓bf2 n10, ↓an_sz0, ↓an_sz1, ↓an_sz2, ↓an_sz3, ↓an_sz4, ↓an_ri, ↓an_rb0, ↓an_rb1, ↓an_b0, ↓an_b1, true_and, ↓ai_0s, ↓al_0s, ↓av_0s, ↓aq_0s, ↓ai_1s, ↓al_1s, ↓av_1s, ↓aq_1s, ↓ai_2s, ↓al_2s, ↓av_2s, ↓aq_2s, ↓ai_3s, ↓al_3s, ↓av_3s, ↓aq_3s, ↓ai_4s, ↓al_4s, ↓av_4s, ↓aq_4s, ↓ai_5s, ↓al_5s, ↓av_5s, ↓aq_5s, ↓ai_6s, ↓al_6s, ↓av_6s, ↓aq_6s, ↓ai_7s, ↓al_7s, ↓av_7s, ↓aq_7s, ↓an_l2, ↓bk_58, ↓kp_58_14, ↓kp_58_58, ↓bf1 hc0, ↓bf2 hc0, ↓an_t hc1, ↓an_rv hc1, ↓r1_e hc2, ↓av_0e hc2, ↓av_1e hc2, ↓av_2e hc2, ↓av_3e hc2, ↓ar_e hc3, ↓an_t hc4, ↓an_t hc5, ↓an_t hc6, ↓an_t hc7]
    rw [oW_some] at hs
    exact hs
set_option maxHeartbeats 4000000 in
set_option maxRecDepth 100000 in
theorem mf_58 {tab : px_T} (hn : px_nd tab) {h : Nat} (hh : 1 ≤ h) : px_Ok tab pn_i58 h (Sg_58 (f_58 tab)) := by
  refine px_mth hn (by decide +kernel) (fun av σ k hS => ?_) (fun C hT hC av σ k hS => ?_)
  · obtain ⟨x0, av0, e0, h0⟩ := av_0p hS
    obtain ⟨ez, hs⟩ := h0
    subst ez
    subst e0
    exact Nat.le_of_ble_eq_true rfl
  · obtain ⟨x0, av0, e0, h0⟩ := av_0p hS
    obtain ⟨ez, hs⟩ := h0
    subst ez
    subst e0
    subst hT
    show px_W C k 0 [some (.inr (.inr (some x0))), none] [] σ
    refine px_runH (h - 1) ck_58 [] [(14, kp_58_14 (fun y0 y1 τ => oW (f_58_14 (px_tb C) y0 y1 τ) (fun τ => k none τ))), (58, kp_58_58 (fun y0 y1 τ => oW (f_58_58 (px_tb C) y0 y1 τ) (fun τ => k none τ)))] 80 2 none rfl rfl hC px_nosp (by omega) (px_cut1 (kq_58_14 (fun y0 y1 τ hq => by exact rl_58_14 hn (by omega) hC (y1, τ) hq)) (px_cut1 (kq_58_58 (fun y0 y1 τ hq => by exact rl_58_58 hn (by omega) hC (y1, τ) hq)) px_nocut)) (fun G Jf hG hJf => ?_)
    unfold f_58 at hs
    obtain ⟨hc0, hs⟩ := oW_gx hs
    obtain ⟨n1, hc1, hs⟩ := oW_bx hs
    obtain ⟨t2, l3, hc2, hs⟩ := oW_ax hs
    obtain ⟨hc3, hs⟩ := oW_gx hs
    obtain ⟨hc4, hs⟩ := oW_gx hs
    by_cases hc5 : (px_av t2 σ n1 ((nI 13)).toNatClampNeg) = (nI 12)
    · replace hs := bW_t hs hc5
      simp only [↓hG, ↓hJf, ↓px_vc, ↓px_ex, ↓px_jp, ↓px_gi, ↓px_gl, ↓px_gr, ↓px_s1, ↓px_s2, ↓px_nl, ↓px_i1, ↓px_l1, ↓r1_s, ↓px_q1, ↓px_i2, ↓px_l2, ↓px_il, ↓px_d0, ↓px_d1, ↓px_d2, ↓px_pop, ↓px_sp, ↓px_rd, ↓px_rf, ↓pn_xf, ↓px_pt, ↓px_sw, ↓pn_SW, ↓px_ma, ↓reduceIte, Nat.reduceEqDiff, Nat.reduceAdd, Nat.reduceSub, ↓Option.toList_some, ↓Option.toList_none, ↓List.cons_append, ↓List.nil_append, ↓kI_s, ↓kJ_s, ↓kN_s, ↓kO_s, ↓kZ_s, ↓kE_s, ↓an_rfl, ↓bt1 n00, ↓bt2 n00, ↓bf1 n10, ↓bf2 n10, ↓an_sz0, ↓an_sz1, ↓an_sz2, ↓an_sz3, ↓an_sz4, ↓an_ri, ↓an_rb0, ↓an_rb1, ↓an_b0, ↓an_b1, true_and, ↓ai_0s, ↓al_0s, ↓av_0s, ↓aq_0s, ↓ai_1s, ↓al_1s, ↓av_1s, ↓aq_1s, ↓ai_2s, ↓al_2s, ↓av_2s, ↓aq_2s, ↓ai_3s, ↓al_3s, ↓av_3s, ↓aq_3s, ↓ai_4s, ↓al_4s, ↓av_4s, ↓aq_4s, ↓ai_5s, ↓al_5s, ↓av_5s, ↓aq_5s, ↓ai_6s, ↓al_6s, ↓av_6s, ↓aq_6s, ↓ai_7s, ↓al_7s, ↓av_7s, ↓aq_7s, ↓an_l2, ↓bk_58, ↓kp_58_14, ↓kp_58_58, ↓an_t hc0, ↓an_rv hc0, ↓r1_e hc1, ↓av_0e hc1, ↓av_1e hc1, ↓av_2e hc1, ↓av_3e hc1, ↓ar_e hc2, ↓an_t hc3, ↓an_t hc4, ↓bt1 hc5, ↓bt2 hc5]
      exact hs
    · replace hs := bW_f hs hc5
      simp only [↓hG, ↓hJf, ↓px_vc, ↓px_ex, ↓px_jp, ↓px_gi, ↓px_gl, ↓px_gr, ↓px_s1, ↓px_s2, ↓px_nl, ↓px_i1, ↓px_l1, ↓r1_s, ↓px_q1, ↓px_i2, ↓px_l2, ↓px_il, ↓px_d0, ↓px_d1, ↓px_d2, ↓px_pop, ↓px_sp, ↓px_rd, ↓px_rf, ↓pn_xf, ↓px_pt, ↓px_sw, ↓pn_SW, ↓px_ma, ↓reduceIte, Nat.reduceEqDiff, Nat.reduceAdd, Nat.reduceSub, ↓Option.toList_some, ↓Option.toList_none, ↓List.cons_append, ↓List.nil_append, ↓kI_s, ↓kJ_s, ↓kN_s, ↓kO_s, ↓kZ_s, ↓kE_s, ↓an_rfl, ↓bt1 n00, ↓bt2 n00, ↓bf1 n10, ↓bf2 n10, ↓an_sz0, ↓an_sz1, ↓an_sz2, ↓an_sz3, ↓an_sz4, ↓an_ri, ↓an_rb0, ↓an_rb1, ↓an_b0, ↓an_b1, true_and, ↓ai_0s, ↓al_0s, ↓av_0s, ↓aq_0s, ↓ai_1s, ↓al_1s, ↓av_1s, ↓aq_1s, ↓ai_2s, ↓al_2s, ↓av_2s, ↓aq_2s, ↓ai_3s, ↓al_3s, ↓av_3s, ↓aq_3s, ↓ai_4s, ↓al_4s, ↓av_4s, ↓aq_4s, ↓ai_5s, ↓al_5s, ↓av_5s, ↓aq_5s, ↓ai_6s, ↓al_6s, ↓av_6s, ↓aq_6s, ↓ai_7s, ↓al_7s, ↓av_7s, ↓aq_7s, ↓an_l2, ↓bk_58, ↓kp_58_14, ↓kp_58_58, ↓an_t hc0, ↓an_rv hc0, ↓r1_e hc1, ↓av_0e hc1, ↓av_1e hc1, ↓av_2e hc1, ↓av_3e hc1, ↓ar_e hc2, ↓an_t hc3, ↓an_t hc4, ↓bf1 hc5, ↓bf2 hc5]
      exact hs
