/-! shallow functions, printed by wip/whole/decomp.py -/
def Sg_78 (g : px_M → Nat → Int32 → Option (Int32 × px_M)) : px_S := fun av σ k => av_0 av (fun x0 av => ai_1 av (fun x1 av => av = [] ∧ oW (g σ x0 x1) (fun q => k (some (.inl q.1)) q.2)))
/-- NoThreeModel.draw(I)I -/
noncomputable def f_78 (tab : px_T) (σ : px_M) (x0 : Nat) (x1 : Int32) : Option (Int32 × px_M) := gd (px_obj (px_lay tab x0) 0) (gd (¬ x1 = nI 0) (some ((((((((px_wi σ x0 22 (((nI 1103515245) * ((σ).1 x0 22)) + (nI 12345)))).1 x0 22).toUInt32 >>> ((nI 16).toUInt32 &&& Int32.toUInt32 31)).toInt32) - (((((px_wi σ x0 22 (((nI 1103515245) * ((σ).1 x0 22)) + (nI 12345)))).1 x0 22).toUInt32 >>> ((nI 16).toUInt32 &&& Int32.toUInt32 31)).toInt32) / x1 * x1), (px_wi σ x0 22 (((nI 1103515245) * ((σ).1 x0 22)) + (nI 12345)))))))
set_option maxHeartbeats 4000000 in
set_option maxRecDepth 100000 in
theorem mf_78 {tab : px_T} (hn : px_nd tab) {h : Nat} (hh : 1 ≤ h) : px_Ok tab pn_i78 h (Sg_78 (f_78 tab)) := by
  refine px_mth hn (by decide +kernel) (fun av σ k hS => ?_) (fun C hT hC av σ k hS => ?_)
  · obtain ⟨x0, av0, e0, h0⟩ := av_0p hS
    obtain ⟨x1, av1, e1, h1⟩ := ai_1p h0
    obtain ⟨ez, hs⟩ := h1
    subst ez
    subst e1
    subst e0
    exact Nat.le_of_ble_eq_true rfl
  · obtain ⟨x0, av0, e0, h0⟩ := av_0p hS
    obtain ⟨x1, av1, e1, h1⟩ := ai_1p h0
    obtain ⟨ez, hs⟩ := h1
    subst ez
    subst e1
    subst e0
    subst hT
    show px_W C k 0 [some (.inr (.inr (some x0))), some (.inl x1)] [] σ
    refine px_runH (h - 1) ck_78 [] [] 80 2 (some .int) rfl rfl hC px_nosp (by omega) px_nocut (fun G Jf hG hJf => ?_)
    unfold f_78 at hs
    obtain ⟨hc0, hs⟩ := oW_gx hs
    obtain ⟨hc1, hs⟩ := oW_gx hs
    simp only [↓hG, ↓hJf, ↓px_vc, ↓px_ex, ↓px_jp, ↓px_gi, ↓px_gl, ↓px_gr, ↓px_s1, ↓px_s2, ↓px_nl, ↓px_i1, ↓px_l1, ↓r1_s, ↓px_q1, ↓px_i2, ↓px_l2, ↓px_il, ↓px_d0, ↓px_d1, ↓px_d2, ↓px_pop, ↓px_sp, ↓px_rd, ↓px_rf, ↓pn_xf, ↓px_pt, ↓px_sw, ↓pn_SW, ↓reduceIte, Nat.reduceEqDiff, Nat.reduceAdd, Nat.reduceSub, ↓Option.toList_some, ↓Option.toList_none, ↓List.cons_append, ↓List.nil_append, ↓kI_s, ↓kJ_s, ↓kN_s, ↓kO_s, ↓kZ_s, ↓kE_s, ↓an_rfl, ↓bt1 n00, ↓bt2 n00, ↓bf1 n10, ↓bf2 n10, ↓an_sz0, ↓an_sz1, ↓an_sz2, ↓an_sz3, ↓an_sz4, ↓an_ri, ↓an_rb0, ↓an_rb1, ↓an_b0, ↓an_b1, true_and, ↓ai_0s, ↓al_0s, ↓av_0s, ↓aq_0s, ↓ai_1s, ↓al_1s, ↓av_1s, ↓aq_1s, ↓ai_2s, ↓al_2s, ↓av_2s, ↓aq_2s, ↓ai_3s, ↓al_3s, ↓av_3s, ↓aq_3s, ↓ai_4s, ↓al_4s, ↓av_4s, ↓aq_4s, ↓ai_5s, ↓al_5s, ↓av_5s, ↓aq_5s, ↓ai_6s, ↓al_6s, ↓av_6s, ↓aq_6s, ↓ai_7s, ↓al_7s, ↓av_7s, ↓aq_7s, ↓an_l2, ↓bk_78, ↓an_t hc0, ↓an_rv hc0, ↓an_t hc1]
    rw [oW_some] at hs
    exact hs
def Sg_79 (g : px_M → Nat → Int32 → Int32 → Option (Int32 × px_M)) : px_S := fun av σ k => av_0 av (fun x0 av => ai_1 av (fun x1 av => ai_2 av (fun x2 av => av = [] ∧ oW (g σ x0 x1 x2) (fun q => k (some (.inl q.1)) q.2))))
/-- NoThreeModel.century(II)I -/
noncomputable def f_79_160 (tab : px_T) (σ : px_M) (x0 : Nat) (x2 : Int32) (x3 : Int32) (x4 : Int32) : Option ((Int32 × Int32 × px_M) ⊕ (Int32 × px_M)) := some (.inl ((x3, (x4 + (nI 1)), σ)))
noncomputable def f_79_157 (tab : px_T) (σ : px_M) (x0 : Nat) (x2 : Int32) (x3 : Int32) (x4 : Int32) : Option ((Int32 × Int32 × px_M) ⊕ (Int32 × px_M)) := f_79_160 tab σ x0 x2 ((x3 + (nI 1))) x4
noncomputable def f_79_126 (tab : px_T) (σ : px_M) (x0 : Nat) (x2 : Int32) (x3 : Int32) (x4 : Int32) (x5 : Int32) (x6 : Int32) (x7 : Int32) : Option ((Int32 × Int32 × px_M) ⊕ (Int32 × px_M)) := gd (px_obj (px_lay tab x0) 0) ((f_58 tab σ x0).bind fun q1 => if x7 = nI 0 then ((((q1).2.2 x0 1)).bind fun n2 => (f_15 tab q1 n2 x5 x6).bind fun q3 => f_79_157 tab q3 x0 x2 x3 x4) else ((f_59 tab q1 x0 x5 x6).bind fun q4 => f_79_157 tab q4 x0 x2 x3 x4))
noncomputable def f_79_87 (tab : px_T) (σ : px_M) (x0 : Nat) (x2 : Int32) (x3 : Int32) (x4 : Int32) (x5 : Int32) (x6 : Int32) (x7 : Int32) : Option ((Int32 × Int32 × px_M) ⊕ (Int32 × px_M)) := if x7 = nI 0 then (gd (px_obj (px_lay tab x0) 0) ((f_57 tab σ x0 ((x5).toInt64) ((x6).toInt64)).bind fun q1 => if q1.1 = nI 0 then (f_79_126 tab q1.2 x0 x2 x3 x4 x5 x6 x7) else (f_79_160 tab q1.2 x0 x2 x3 x4))) else (gd (px_obj (px_lay tab x0) 0) ((f_31 tab σ x0 x5).bind fun r2 => (f_14 tab σ ((r2).toInt64) x6).bind fun r3 => bn (r3 = nI 0) (f_79_126 tab σ x0 x2 x3 x4 x5 x6 x7) (f_79_160 tab σ x0 x2 x3 x4)))
noncomputable def f_79_72 (tab : px_T) (σ : px_M) (x0 : Nat) (x2 : Int32) (x3 : Int32) (x4 : Int32) (x5 : Int32) (x6 : Int32) : Option ((Int32 × Int32 × px_M) ⊕ (Int32 × px_M)) := gd (px_obj (px_lay tab x0) 0) ((f_78 tab σ x0 ((nI 4))).bind fun q1 => bn (q1.1 = nI 0) (f_79_87 tab q1.2 x0 x2 x3 x4 x5 x6 ((nI 0))) (f_79_87 tab q1.2 x0 x2 x3 x4 x5 x6 ((nI 1))))
noncomputable def F_79_42 (tab : px_T) (x0 : Nat) (x2 : Int32) (x3 : Int32) (x4 : Int32) (σ : px_M) : Option ((Int32 × Int32 × px_M) ⊕ (Int32 × px_M)) := if x2 ≤ x4 then (some (.inr ((x3, σ)))) else (gd (px_obj (px_lay tab x0) 0) ((((σ).2.2 x0 1)).bind fun n1 => oA (px_lay tab n1) fun t2 l3 => gd (t2 = 0 ∨ t2 = 11) (gd (vp_in (nI 1) l3) ((f_78 tab σ x0 ((px_av t2 σ n1 ((nI 1)).toNatClampNeg))).bind fun q4 => (((q4.2).2.2 x0 1)).bind fun n5 => oA (px_lay tab n5) fun t6 l7 => gd (t6 = 0 ∨ t6 = 11) (gd (vp_in (nI 1) l7) ((f_78 tab q4.2 x0 ((px_av t6 q4.2 n5 ((nI 1)).toNatClampNeg))).bind fun q8 => f_79_72 tab q8.2 x0 x2 x3 x4 q4.1 q8.1))))))
noncomputable def f_79_42 (tab : px_T) (x0 : Nat) (x2 : Int32) (x3 : Int32) (x4 : Int32) (σ : px_M) : Option (Int32 × px_M) := lpO (fun s : Int32 × Int32 × px_M => F_79_42 tab x0 x2 s.1 s.2.1 s.2.2) (x3, x4, σ)
theorem f_79_42_eq (tab : px_T) (x0 : Nat) (x2 : Int32) (x3 : Int32) (x4 : Int32) (σ : px_M) : f_79_42 tab x0 x2 x3 x4 σ = (F_79_42 tab x0 x2 x3 x4 σ).bind (Sum.elim (fun s => f_79_42 tab x0 x2 s.1 s.2.1 s.2.2) some) := lpO_eq _ _
noncomputable def f_79_39 (tab : px_T) (σ : px_M) (x0 : Nat) (x2 : Int32) (x3 : Int32) : Option (Int32 × px_M) := f_79_42 tab x0 x2 x3 ((nI 0)) σ
noncomputable def f_79 (tab : px_T) (σ : px_M) (x0 : Nat) (x1 : Int32) (x2 : Int32) : Option (Int32 × px_M) := gd (px_obj (px_lay tab x0) 0) ((f_2 tab (px_wi σ x0 0 (nI 0)) ((x2).toInt64) ((lN 1)) ((lN 60))).bind fun r1 => bn (r1 = nI 0) (((((px_wi σ x0 0 (nI 0))).2.2 x0 1)).bind fun n2 => oA (px_lay tab n2) fun t3 l4 => gd (t3 = 0 ∨ t3 = 11) (gd (vp_in (nI 1) l4) (bn ((px_av t3 (px_wi σ x0 0 (nI 0)) n2 ((nI 1)).toNatClampNeg) = nI 0) (f_79_39 tab ((px_wi (px_wi σ x0 0 (nI 0)) x0 22 x1)) x0 x2 ((nI 0))) (some (((-5), (px_wi σ x0 0 (nI 0)))))))) (some (((-3), (px_wi σ x0 0 (nI 0))))))
def kp_79_160 (Q : Nat → Int32 → Int32 → Int32 → px_M → Prop) : px_P := fun ls st τ => st = [] ∧ kN ls (fun x0 ls => kZ ls (fun ls => kI ls (fun x2 ls => kI ls (fun x3 ls => kI ls (fun x4 ls => kZ ls (fun ls => kZ ls (fun ls => kZ ls (fun ls => kE ls (Q x0 x2 x3 x4 τ)))))))))
theorem kq_79_160 {C : px_C} {k : Option px_V → px_M → Prop} {Q : Nat → Int32 → Int32 → Int32 → px_M → Prop} (H : ∀ (x0 : Nat) (x2 : Int32) (x3 : Int32) (x4 : Int32) (τ : px_M), Q x0 x2 x3 x4 τ → ∀ (z1 : Option px_V) (z5 : Option px_V) (z6 : Option px_V) (z7 : Option px_V), px_W C k 160 [some (.inr (.inr (some x0))), z1, some (.inl x2), some (.inl x3), some (.inl x4), z5, z6, z7] [] τ) : ∀ ls st τ, kp_79_160 Q ls st τ → px_W C k 160 ls st τ := by
  intro ls st τ hz
  obtain ⟨ez, h0⟩ := hz
  obtain ⟨x0, l0, e0, h1⟩ := kN_sp h0
  obtain ⟨z1, l1, e1, h2⟩ := kZ_sp h1
  obtain ⟨x2, l2, e2, h3⟩ := kI_sp h2
  obtain ⟨x3, l3, e3, h4⟩ := kI_sp h3
  obtain ⟨x4, l4, e4, h5⟩ := kI_sp h4
  obtain ⟨z5, l5, e5, h6⟩ := kZ_sp h5
  obtain ⟨z6, l6, e6, h7⟩ := kZ_sp h6
  obtain ⟨z7, l7, e7, h8⟩ := kZ_sp h7
  obtain ⟨ey, hy⟩ := kE_sp h8
  subst ez
  subst ey
  subst e7
  subst e6
  subst e5
  subst e4
  subst e3
  subst e2
  subst e1
  subst e0
  exact H x0 x2 x3 x4 τ hy z1 z5 z6 z7
def kp_79_157 (Q : Nat → Int32 → Int32 → Int32 → px_M → Prop) : px_P := fun ls st τ => st = [] ∧ kN ls (fun x0 ls => kZ ls (fun ls => kI ls (fun x2 ls => kI ls (fun x3 ls => kI ls (fun x4 ls => kZ ls (fun ls => kZ ls (fun ls => kZ ls (fun ls => kE ls (Q x0 x2 x3 x4 τ)))))))))
theorem kq_79_157 {C : px_C} {k : Option px_V → px_M → Prop} {Q : Nat → Int32 → Int32 → Int32 → px_M → Prop} (H : ∀ (x0 : Nat) (x2 : Int32) (x3 : Int32) (x4 : Int32) (τ : px_M), Q x0 x2 x3 x4 τ → ∀ (z1 : Option px_V) (z5 : Option px_V) (z6 : Option px_V) (z7 : Option px_V), px_W C k 157 [some (.inr (.inr (some x0))), z1, some (.inl x2), some (.inl x3), some (.inl x4), z5, z6, z7] [] τ) : ∀ ls st τ, kp_79_157 Q ls st τ → px_W C k 157 ls st τ := by
  intro ls st τ hz
  obtain ⟨ez, h0⟩ := hz
  obtain ⟨x0, l0, e0, h1⟩ := kN_sp h0
  obtain ⟨z1, l1, e1, h2⟩ := kZ_sp h1
  obtain ⟨x2, l2, e2, h3⟩ := kI_sp h2
  obtain ⟨x3, l3, e3, h4⟩ := kI_sp h3
  obtain ⟨x4, l4, e4, h5⟩ := kI_sp h4
  obtain ⟨z5, l5, e5, h6⟩ := kZ_sp h5
  obtain ⟨z6, l6, e6, h7⟩ := kZ_sp h6
  obtain ⟨z7, l7, e7, h8⟩ := kZ_sp h7
  obtain ⟨ey, hy⟩ := kE_sp h8
  subst ez
  subst ey
  subst e7
  subst e6
  subst e5
  subst e4
  subst e3
  subst e2
  subst e1
  subst e0
  exact H x0 x2 x3 x4 τ hy z1 z5 z6 z7
def kp_79_126 (Q : Nat → Int32 → Int32 → Int32 → Int32 → Int32 → Int32 → px_M → Prop) : px_P := fun ls st τ => st = [] ∧ kN ls (fun x0 ls => kZ ls (fun ls => kI ls (fun x2 ls => kI ls (fun x3 ls => kI ls (fun x4 ls => kI ls (fun x5 ls => kI ls (fun x6 ls => kI ls (fun x7 ls => kE ls (Q x0 x2 x3 x4 x5 x6 x7 τ)))))))))
theorem kq_79_126 {C : px_C} {k : Option px_V → px_M → Prop} {Q : Nat → Int32 → Int32 → Int32 → Int32 → Int32 → Int32 → px_M → Prop} (H : ∀ (x0 : Nat) (x2 : Int32) (x3 : Int32) (x4 : Int32) (x5 : Int32) (x6 : Int32) (x7 : Int32) (τ : px_M), Q x0 x2 x3 x4 x5 x6 x7 τ → ∀ (z1 : Option px_V), px_W C k 126 [some (.inr (.inr (some x0))), z1, some (.inl x2), some (.inl x3), some (.inl x4), some (.inl x5), some (.inl x6), some (.inl x7)] [] τ) : ∀ ls st τ, kp_79_126 Q ls st τ → px_W C k 126 ls st τ := by
  intro ls st τ hz
  obtain ⟨ez, h0⟩ := hz
  obtain ⟨x0, l0, e0, h1⟩ := kN_sp h0
  obtain ⟨z1, l1, e1, h2⟩ := kZ_sp h1
  obtain ⟨x2, l2, e2, h3⟩ := kI_sp h2
  obtain ⟨x3, l3, e3, h4⟩ := kI_sp h3
  obtain ⟨x4, l4, e4, h5⟩ := kI_sp h4
  obtain ⟨x5, l5, e5, h6⟩ := kI_sp h5
  obtain ⟨x6, l6, e6, h7⟩ := kI_sp h6
  obtain ⟨x7, l7, e7, h8⟩ := kI_sp h7
  obtain ⟨ey, hy⟩ := kE_sp h8
  subst ez
  subst ey
  subst e7
  subst e6
  subst e5
  subst e4
  subst e3
  subst e2
  subst e1
  subst e0
  exact H x0 x2 x3 x4 x5 x6 x7 τ hy z1
def kp_79_87 (Q : Nat → Int32 → Int32 → Int32 → Int32 → Int32 → Int32 → px_M → Prop) : px_P := fun ls st τ => st = [] ∧ kN ls (fun x0 ls => kZ ls (fun ls => kI ls (fun x2 ls => kI ls (fun x3 ls => kI ls (fun x4 ls => kI ls (fun x5 ls => kI ls (fun x6 ls => kI ls (fun x7 ls => kE ls (Q x0 x2 x3 x4 x5 x6 x7 τ)))))))))
theorem kq_79_87 {C : px_C} {k : Option px_V → px_M → Prop} {Q : Nat → Int32 → Int32 → Int32 → Int32 → Int32 → Int32 → px_M → Prop} (H : ∀ (x0 : Nat) (x2 : Int32) (x3 : Int32) (x4 : Int32) (x5 : Int32) (x6 : Int32) (x7 : Int32) (τ : px_M), Q x0 x2 x3 x4 x5 x6 x7 τ → ∀ (z1 : Option px_V), px_W C k 87 [some (.inr (.inr (some x0))), z1, some (.inl x2), some (.inl x3), some (.inl x4), some (.inl x5), some (.inl x6), some (.inl x7)] [] τ) : ∀ ls st τ, kp_79_87 Q ls st τ → px_W C k 87 ls st τ := by
  intro ls st τ hz
  obtain ⟨ez, h0⟩ := hz
  obtain ⟨x0, l0, e0, h1⟩ := kN_sp h0
  obtain ⟨z1, l1, e1, h2⟩ := kZ_sp h1
  obtain ⟨x2, l2, e2, h3⟩ := kI_sp h2
  obtain ⟨x3, l3, e3, h4⟩ := kI_sp h3
  obtain ⟨x4, l4, e4, h5⟩ := kI_sp h4
  obtain ⟨x5, l5, e5, h6⟩ := kI_sp h5
  obtain ⟨x6, l6, e6, h7⟩ := kI_sp h6
  obtain ⟨x7, l7, e7, h8⟩ := kI_sp h7
  obtain ⟨ey, hy⟩ := kE_sp h8
  subst ez
  subst ey
  subst e7
  subst e6
  subst e5
  subst e4
  subst e3
  subst e2
  subst e1
  subst e0
  exact H x0 x2 x3 x4 x5 x6 x7 τ hy z1
def kp_79_72 (Q : Nat → Int32 → Int32 → Int32 → Int32 → Int32 → px_M → Prop) : px_P := fun ls st τ => st = [] ∧ kN ls (fun x0 ls => kZ ls (fun ls => kI ls (fun x2 ls => kI ls (fun x3 ls => kI ls (fun x4 ls => kI ls (fun x5 ls => kI ls (fun x6 ls => kZ ls (fun ls => kE ls (Q x0 x2 x3 x4 x5 x6 τ)))))))))
theorem kq_79_72 {C : px_C} {k : Option px_V → px_M → Prop} {Q : Nat → Int32 → Int32 → Int32 → Int32 → Int32 → px_M → Prop} (H : ∀ (x0 : Nat) (x2 : Int32) (x3 : Int32) (x4 : Int32) (x5 : Int32) (x6 : Int32) (τ : px_M), Q x0 x2 x3 x4 x5 x6 τ → ∀ (z1 : Option px_V) (z7 : Option px_V), px_W C k 72 [some (.inr (.inr (some x0))), z1, some (.inl x2), some (.inl x3), some (.inl x4), some (.inl x5), some (.inl x6), z7] [] τ) : ∀ ls st τ, kp_79_72 Q ls st τ → px_W C k 72 ls st τ := by
  intro ls st τ hz
  obtain ⟨ez, h0⟩ := hz
  obtain ⟨x0, l0, e0, h1⟩ := kN_sp h0
  obtain ⟨z1, l1, e1, h2⟩ := kZ_sp h1
  obtain ⟨x2, l2, e2, h3⟩ := kI_sp h2
  obtain ⟨x3, l3, e3, h4⟩ := kI_sp h3
  obtain ⟨x4, l4, e4, h5⟩ := kI_sp h4
  obtain ⟨x5, l5, e5, h6⟩ := kI_sp h5
  obtain ⟨x6, l6, e6, h7⟩ := kI_sp h6
  obtain ⟨z7, l7, e7, h8⟩ := kZ_sp h7
  obtain ⟨ey, hy⟩ := kE_sp h8
  subst ez
  subst ey
  subst e7
  subst e6
  subst e5
  subst e4
  subst e3
  subst e2
  subst e1
  subst e0
  exact H x0 x2 x3 x4 x5 x6 τ hy z1 z7
def kp_79_42 (Q : Nat → Int32 → Int32 → Int32 → px_M → Prop) : px_P := fun ls st τ => st = [] ∧ kN ls (fun x0 ls => kZ ls (fun ls => kI ls (fun x2 ls => kI ls (fun x3 ls => kI ls (fun x4 ls => kZ ls (fun ls => kZ ls (fun ls => kZ ls (fun ls => kE ls (Q x0 x2 x3 x4 τ)))))))))
theorem kq_79_42 {C : px_C} {k : Option px_V → px_M → Prop} {Q : Nat → Int32 → Int32 → Int32 → px_M → Prop} (H : ∀ (x0 : Nat) (x2 : Int32) (x3 : Int32) (x4 : Int32) (τ : px_M), Q x0 x2 x3 x4 τ → ∀ (z1 : Option px_V) (z5 : Option px_V) (z6 : Option px_V) (z7 : Option px_V), px_W C k 42 [some (.inr (.inr (some x0))), z1, some (.inl x2), some (.inl x3), some (.inl x4), z5, z6, z7] [] τ) : ∀ ls st τ, kp_79_42 Q ls st τ → px_W C k 42 ls st τ := by
  intro ls st τ hz
  obtain ⟨ez, h0⟩ := hz
  obtain ⟨x0, l0, e0, h1⟩ := kN_sp h0
  obtain ⟨z1, l1, e1, h2⟩ := kZ_sp h1
  obtain ⟨x2, l2, e2, h3⟩ := kI_sp h2
  obtain ⟨x3, l3, e3, h4⟩ := kI_sp h3
  obtain ⟨x4, l4, e4, h5⟩ := kI_sp h4
  obtain ⟨z5, l5, e5, h6⟩ := kZ_sp h5
  obtain ⟨z6, l6, e6, h7⟩ := kZ_sp h6
  obtain ⟨z7, l7, e7, h8⟩ := kZ_sp h7
  obtain ⟨ey, hy⟩ := kE_sp h8
  subst ez
  subst ey
  subst e7
  subst e6
  subst e5
  subst e4
  subst e3
  subst e2
  subst e1
  subst e0
  exact H x0 x2 x3 x4 τ hy z1 z5 z6 z7
def kp_79_39 (Q : Nat → Int32 → Int32 → px_M → Prop) : px_P := fun ls st τ => st = [] ∧ kN ls (fun x0 ls => kZ ls (fun ls => kI ls (fun x2 ls => kI ls (fun x3 ls => kZ ls (fun ls => kZ ls (fun ls => kZ ls (fun ls => kZ ls (fun ls => kE ls (Q x0 x2 x3 τ)))))))))
theorem kq_79_39 {C : px_C} {k : Option px_V → px_M → Prop} {Q : Nat → Int32 → Int32 → px_M → Prop} (H : ∀ (x0 : Nat) (x2 : Int32) (x3 : Int32) (τ : px_M), Q x0 x2 x3 τ → ∀ (z1 : Option px_V) (z4 : Option px_V) (z5 : Option px_V) (z6 : Option px_V) (z7 : Option px_V), px_W C k 39 [some (.inr (.inr (some x0))), z1, some (.inl x2), some (.inl x3), z4, z5, z6, z7] [] τ) : ∀ ls st τ, kp_79_39 Q ls st τ → px_W C k 39 ls st τ := by
  intro ls st τ hz
  obtain ⟨ez, h0⟩ := hz
  obtain ⟨x0, l0, e0, h1⟩ := kN_sp h0
  obtain ⟨z1, l1, e1, h2⟩ := kZ_sp h1
  obtain ⟨x2, l2, e2, h3⟩ := kI_sp h2
  obtain ⟨x3, l3, e3, h4⟩ := kI_sp h3
  obtain ⟨z4, l4, e4, h5⟩ := kZ_sp h4
  obtain ⟨z5, l5, e5, h6⟩ := kZ_sp h5
  obtain ⟨z6, l6, e6, h7⟩ := kZ_sp h6
  obtain ⟨z7, l7, e7, h8⟩ := kZ_sp h7
  obtain ⟨ey, hy⟩ := kE_sp h8
  subst ez
  subst ey
  subst e7
  subst e6
  subst e5
  subst e4
  subst e3
  subst e2
  subst e1
  subst e0
  exact H x0 x2 x3 τ hy z1 z4 z5 z6 z7
set_option maxHeartbeats 4000000 in
set_option maxRecDepth 100000 in
theorem rl_79_160 {C : px_C} (hn : px_nd (px_tb C)) {h : Nat} (hh : 33 ≤ h) (hC : px_ok C pn_i79 h) {k : Option px_V → px_M → Prop} {x0 : Nat} {x2 : Int32} {x3 : Int32} {x4 : Int32} {σ : px_M} (hs : oW (f_79_160 (px_tb C) σ x0 x2 x3 x4) (Sum.elim (fun s : Int32 × Int32 × px_M => ∀ (z1 : Option px_V) (z5 : Option px_V) (z6 : Option px_V) (z7 : Option px_V), px_W C k 42 [some (.inr (.inr (some x0))), z1, some (.inl x2), some (.inl s.1), some (.inl s.2.1), z5, z6, z7] [] s.2.2) (fun q => k (some (.inl q.1)) q.2))) : ∀ (z1 : Option px_V) (z5 : Option px_V) (z6 : Option px_V) (z7 : Option px_V), px_W C k 160 [some (.inr (.inr (some x0))), z1, some (.inl x2), some (.inl x3), some (.inl x4), z5, z6, z7] [] σ := by
  intro z1 z5 z6 z7
  refine px_runH (h - 1) ck_79 [] [(42, kp_79_42 (fun y0 y2 y3 y4 τ => y0 = x0 ∧ y2 = x2 ∧ (fun s : Int32 × Int32 × px_M => ∀ (z1 : Option px_V) (z5 : Option px_V) (z6 : Option px_V) (z7 : Option px_V), px_W C k 42 [some (.inr (.inr (some x0))), z1, some (.inl x2), some (.inl s.1), some (.inl s.2.1), z5, z6, z7] [] s.2.2) (y3, y4, τ)))] 80 8 (some .int) rfl rfl hC px_nosp (by omega) (px_cut1 (kq_79_42 (fun y0 y2 y3 y4 τ hq => by obtain ⟨rfl, rfl, hq⟩ := hq; exact hq)) px_nocut) (fun G Jf hG hJf => ?_)
  unfold f_79_160 at hs
  simp only [↓hG, ↓hJf, ↓px_vc, ↓px_ex, ↓px_jp, ↓px_gi, ↓px_gl, ↓px_gr, ↓px_s1, ↓px_s2, ↓px_nl, ↓px_i1, ↓px_l1, ↓r1_s, ↓px_q1, ↓px_i2, ↓px_l2, ↓px_il, ↓px_d0, ↓px_d1, ↓px_d2, ↓px_pop, ↓px_sp, ↓px_rd, ↓px_rf, ↓pn_xf, ↓px_pt, ↓px_sw, ↓pn_SW, ↓reduceIte, Nat.reduceEqDiff, Nat.reduceAdd, Nat.reduceSub, ↓Option.toList_some, ↓Option.toList_none, ↓List.cons_append, ↓List.nil_append, ↓kI_s, ↓kJ_s, ↓kN_s, ↓kO_s, ↓kZ_s, ↓kE_s, ↓an_rfl, ↓bt1 n00, ↓bt2 n00, ↓bf1 n10, ↓bf2 n10, ↓an_sz0, ↓an_sz1, ↓an_sz2, ↓an_sz3, ↓an_sz4, ↓an_ri, ↓an_rb0, ↓an_rb1, ↓an_b0, ↓an_b1, true_and, ↓ai_0s, ↓al_0s, ↓av_0s, ↓aq_0s, ↓ai_1s, ↓al_1s, ↓av_1s, ↓aq_1s, ↓ai_2s, ↓al_2s, ↓av_2s, ↓aq_2s, ↓ai_3s, ↓al_3s, ↓av_3s, ↓aq_3s, ↓ai_4s, ↓al_4s, ↓av_4s, ↓aq_4s, ↓ai_5s, ↓al_5s, ↓av_5s, ↓aq_5s, ↓ai_6s, ↓al_6s, ↓av_6s, ↓aq_6s, ↓ai_7s, ↓al_7s, ↓av_7s, ↓aq_7s, ↓an_l8, ↓bk_79, ↓kp_79_42]
  rw [oW_some] at hs
  exact hs
set_option maxHeartbeats 4000000 in
set_option maxRecDepth 100000 in
theorem rl_79_157 {C : px_C} (hn : px_nd (px_tb C)) {h : Nat} (hh : 33 ≤ h) (hC : px_ok C pn_i79 h) {k : Option px_V → px_M → Prop} {x0 : Nat} {x2 : Int32} {x3 : Int32} {x4 : Int32} {σ : px_M} (hs : oW (f_79_157 (px_tb C) σ x0 x2 x3 x4) (Sum.elim (fun s : Int32 × Int32 × px_M => ∀ (z1 : Option px_V) (z5 : Option px_V) (z6 : Option px_V) (z7 : Option px_V), px_W C k 42 [some (.inr (.inr (some x0))), z1, some (.inl x2), some (.inl s.1), some (.inl s.2.1), z5, z6, z7] [] s.2.2) (fun q => k (some (.inl q.1)) q.2))) : ∀ (z1 : Option px_V) (z5 : Option px_V) (z6 : Option px_V) (z7 : Option px_V), px_W C k 157 [some (.inr (.inr (some x0))), z1, some (.inl x2), some (.inl x3), some (.inl x4), z5, z6, z7] [] σ := by
  intro z1 z5 z6 z7
  refine px_runH (h - 1) ck_79 [] [(160, kp_79_160 (fun y0 y2 y3 y4 τ => y0 = x0 ∧ y2 = x2 ∧ oW (f_79_160 (px_tb C) τ y0 y2 y3 y4) (Sum.elim (fun s : Int32 × Int32 × px_M => ∀ (z1 : Option px_V) (z5 : Option px_V) (z6 : Option px_V) (z7 : Option px_V), px_W C k 42 [some (.inr (.inr (some x0))), z1, some (.inl x2), some (.inl s.1), some (.inl s.2.1), z5, z6, z7] [] s.2.2) (fun q => k (some (.inl q.1)) q.2))))] 80 8 (some .int) rfl rfl hC px_nosp (by omega) (px_cut1 (kq_79_160 (fun y0 y2 y3 y4 τ hq => by obtain ⟨rfl, rfl, hq⟩ := hq; exact rl_79_160 hn (by omega) hC  hq)) px_nocut) (fun G Jf hG hJf => ?_)
  unfold f_79_157 at hs
  simp only [↓hG, ↓hJf, ↓px_vc, ↓px_ex, ↓px_jp, ↓px_gi, ↓px_gl, ↓px_gr, ↓px_s1, ↓px_s2, ↓px_nl, ↓px_i1, ↓px_l1, ↓r1_s, ↓px_q1, ↓px_i2, ↓px_l2, ↓px_il, ↓px_d0, ↓px_d1, ↓px_d2, ↓px_pop, ↓px_sp, ↓px_rd, ↓px_rf, ↓pn_xf, ↓px_pt, ↓px_sw, ↓pn_SW, ↓reduceIte, Nat.reduceEqDiff, Nat.reduceAdd, Nat.reduceSub, ↓Option.toList_some, ↓Option.toList_none, ↓List.cons_append, ↓List.nil_append, ↓kI_s, ↓kJ_s, ↓kN_s, ↓kO_s, ↓kZ_s, ↓kE_s, ↓an_rfl, ↓bt1 n00, ↓bt2 n00, ↓bf1 n10, ↓bf2 n10, ↓an_sz0, ↓an_sz1, ↓an_sz2, ↓an_sz3, ↓an_sz4, ↓an_ri, ↓an_rb0, ↓an_rb1, ↓an_b0, ↓an_b1, true_and, ↓ai_0s, ↓al_0s, ↓av_0s, ↓aq_0s, ↓ai_1s, ↓al_1s, ↓av_1s, ↓aq_1s, ↓ai_2s, ↓al_2s, ↓av_2s, ↓aq_2s, ↓ai_3s, ↓al_3s, ↓av_3s, ↓aq_3s, ↓ai_4s, ↓al_4s, ↓av_4s, ↓aq_4s, ↓ai_5s, ↓al_5s, ↓av_5s, ↓aq_5s, ↓ai_6s, ↓al_6s, ↓av_6s, ↓aq_6s, ↓ai_7s, ↓al_7s, ↓av_7s, ↓aq_7s, ↓an_l8, ↓bk_79, ↓kp_79_160]
  exact hs
set_option maxHeartbeats 4000000 in
set_option maxRecDepth 100000 in
theorem rl_79_126 {C : px_C} (hn : px_nd (px_tb C)) {h : Nat} (hh : 33 ≤ h) (hC : px_ok C pn_i79 h) {k : Option px_V → px_M → Prop} {x0 : Nat} {x2 : Int32} {x3 : Int32} {x4 : Int32} {x5 : Int32} {x6 : Int32} {x7 : Int32} {σ : px_M} (hs : oW (f_79_126 (px_tb C) σ x0 x2 x3 x4 x5 x6 x7) (Sum.elim (fun s : Int32 × Int32 × px_M => ∀ (z1 : Option px_V) (z5 : Option px_V) (z6 : Option px_V) (z7 : Option px_V), px_W C k 42 [some (.inr (.inr (some x0))), z1, some (.inl x2), some (.inl s.1), some (.inl s.2.1), z5, z6, z7] [] s.2.2) (fun q => k (some (.inl q.1)) q.2))) : ∀ (z1 : Option px_V), px_W C k 126 [some (.inr (.inr (some x0))), z1, some (.inl x2), some (.inl x3), some (.inl x4), some (.inl x5), some (.inl x6), some (.inl x7)] [] σ := by
  intro z1
  refine px_runH (h - 1) ck_79 [(15, Sg_15 (f_15 (px_tb C))), (58, Sg_58 (f_58 (px_tb C))), (59, Sg_59 (f_59 (px_tb C)))] [(157, kp_79_157 (fun y0 y2 y3 y4 τ => y0 = x0 ∧ y2 = x2 ∧ oW (f_79_157 (px_tb C) τ y0 y2 y3 y4) (Sum.elim (fun s : Int32 × Int32 × px_M => ∀ (z1 : Option px_V) (z5 : Option px_V) (z6 : Option px_V) (z7 : Option px_V), px_W C k 42 [some (.inr (.inr (some x0))), z1, some (.inl x2), some (.inl s.1), some (.inl s.2.1), z5, z6, z7] [] s.2.2) (fun q => k (some (.inl q.1)) q.2))))] 80 8 (some .int) rfl rfl hC (px_sp1 (mf_15 hn (by omega)) (px_sp1 (mf_58 hn (by omega)) (px_sp1 (mf_59 hn (by omega)) px_nosp))) (by omega) (px_cut1 (kq_79_157 (fun y0 y2 y3 y4 τ hq => by obtain ⟨rfl, rfl, hq⟩ := hq; exact rl_79_157 hn (by omega) hC  hq)) px_nocut) (fun G Jf hG hJf => ?_)
  unfold f_79_126 at hs
  obtain ⟨hc0, hs⟩ := oW_gx hs
  obtain ⟨q1, hc1, hs⟩ := oW_bx hs
  by_cases hc2 : x7 = nI 0
  · replace hs := oW_t hs hc2
    obtain ⟨n2, hc3, hs⟩ := oW_bx hs
    obtain ⟨q3, hc4, hs⟩ := oW_bx hs
    simp only [↓hG, ↓hJf, ↓px_vc, ↓px_ex, ↓px_jp, ↓px_gi, ↓px_gl, ↓px_gr, ↓px_s1, ↓px_s2, ↓px_nl, ↓px_i1, ↓px_l1, ↓r1_s, ↓px_q1, ↓px_i2, ↓px_l2, ↓px_il, ↓px_d0, ↓px_d1, ↓px_d2, ↓px_pop, ↓px_sp, ↓px_rd, ↓px_rf, ↓pn_xf, ↓px_pt, ↓px_sw, ↓pn_SW, ↓reduceIte, Nat.reduceEqDiff, Nat.reduceAdd, Nat.reduceSub, ↓Option.toList_some, ↓Option.toList_none, ↓List.cons_append, ↓List.nil_append, ↓kI_s, ↓kJ_s, ↓kN_s, ↓kO_s, ↓kZ_s, ↓kE_s, ↓an_rfl, ↓bt1 n00, ↓bt2 n00, ↓bf1 n10, ↓bf2 n10, ↓an_sz0, ↓an_sz1, ↓an_sz2, ↓an_sz3, ↓an_sz4, ↓an_ri, ↓an_rb0, ↓an_rb1, ↓an_b0, ↓an_b1, true_and, ↓ai_0s, ↓al_0s, ↓av_0s, ↓aq_0s, ↓ai_1s, ↓al_1s, ↓av_1s, ↓aq_1s, ↓ai_2s, ↓al_2s, ↓av_2s, ↓aq_2s, ↓ai_3s, ↓al_3s, ↓av_3s, ↓aq_3s, ↓ai_4s, ↓al_4s, ↓av_4s, ↓aq_4s, ↓ai_5s, ↓al_5s, ↓av_5s, ↓aq_5s, ↓ai_6s, ↓al_6s, ↓av_6s, ↓aq_6s, ↓ai_7s, ↓al_7s, ↓av_7s, ↓aq_7s, ↓an_l8, ↓bk_79, ↓Sg_15, ↓Sg_58, ↓Sg_59, ↓kp_79_157, ↓an_t hc0, ↓an_rv hc0, ↓oW_e hc1, ↓bt1 hc2, ↓bt2 hc2, ↓r1_e hc3, ↓av_0e hc3, ↓av_1e hc3, ↓av_2e hc3, ↓av_3e hc3, ↓oW_e hc4]
    exact hs
  · replace hs := oW_f hs hc2
    obtain ⟨q4, hc3, hs⟩ := oW_bx hs
    simp only [↓hG, ↓hJf, ↓px_vc, ↓px_ex, ↓px_jp, ↓px_gi, ↓px_gl, ↓px_gr, ↓px_s1, ↓px_s2, ↓px_nl, ↓px_i1, ↓px_l1, ↓r1_s, ↓px_q1, ↓px_i2, ↓px_l2, ↓px_il, ↓px_d0, ↓px_d1, ↓px_d2, ↓px_pop, ↓px_sp, ↓px_rd, ↓px_rf, ↓pn_xf, ↓px_pt, ↓px_sw, ↓pn_SW, ↓reduceIte, Nat.reduceEqDiff, Nat.reduceAdd, Nat.reduceSub, ↓Option.toList_some, ↓Option.toList_none, ↓List.cons_append, ↓List.nil_append, ↓kI_s, ↓kJ_s, ↓kN_s, ↓kO_s, ↓kZ_s, ↓kE_s, ↓an_rfl, ↓bt1 n00, ↓bt2 n00, ↓bf1 n10, ↓bf2 n10, ↓an_sz0, ↓an_sz1, ↓an_sz2, ↓an_sz3, ↓an_sz4, ↓an_ri, ↓an_rb0, ↓an_rb1, ↓an_b0, ↓an_b1, true_and, ↓ai_0s, ↓al_0s, ↓av_0s, ↓aq_0s, ↓ai_1s, ↓al_1s, ↓av_1s, ↓aq_1s, ↓ai_2s, ↓al_2s, ↓av_2s, ↓aq_2s, ↓ai_3s, ↓al_3s, ↓av_3s, ↓aq_3s, ↓ai_4s, ↓al_4s, ↓av_4s, ↓aq_4s, ↓ai_5s, ↓al_5s, ↓av_5s, ↓aq_5s, ↓ai_6s, ↓al_6s, ↓av_6s, ↓aq_6s, ↓ai_7s, ↓al_7s, ↓av_7s, ↓aq_7s, ↓an_l8, ↓bk_79, ↓Sg_15, ↓Sg_58, ↓Sg_59, ↓kp_79_157, ↓an_t hc0, ↓an_rv hc0, ↓oW_e hc1, ↓bf1 hc2, ↓bf2 hc2, ↓oW_e hc3]
    exact hs
set_option maxHeartbeats 4000000 in
set_option maxRecDepth 100000 in
theorem rl_79_87 {C : px_C} (hn : px_nd (px_tb C)) {h : Nat} (hh : 33 ≤ h) (hC : px_ok C pn_i79 h) {k : Option px_V → px_M → Prop} {x0 : Nat} {x2 : Int32} {x3 : Int32} {x4 : Int32} {x5 : Int32} {x6 : Int32} {x7 : Int32} {σ : px_M} (hs : oW (f_79_87 (px_tb C) σ x0 x2 x3 x4 x5 x6 x7) (Sum.elim (fun s : Int32 × Int32 × px_M => ∀ (z1 : Option px_V) (z5 : Option px_V) (z6 : Option px_V) (z7 : Option px_V), px_W C k 42 [some (.inr (.inr (some x0))), z1, some (.inl x2), some (.inl s.1), some (.inl s.2.1), z5, z6, z7] [] s.2.2) (fun q => k (some (.inl q.1)) q.2))) : ∀ (z1 : Option px_V), px_W C k 87 [some (.inr (.inr (some x0))), z1, some (.inl x2), some (.inl x3), some (.inl x4), some (.inl x5), some (.inl x6), some (.inl x7)] [] σ := by
  intro z1
  refine px_runH (h - 1) ck_79 [(14, Sg_14 (f_14 (px_tb C))), (31, Sg_31 (f_31 (px_tb C))), (57, Sg_57 (f_57 (px_tb C)))] [(126, kp_79_126 (fun y0 y2 y3 y4 y5 y6 y7 τ => y0 = x0 ∧ y2 = x2 ∧ oW (f_79_126 (px_tb C) τ y0 y2 y3 y4 y5 y6 y7) (Sum.elim (fun s : Int32 × Int32 × px_M => ∀ (z1 : Option px_V) (z5 : Option px_V) (z6 : Option px_V) (z7 : Option px_V), px_W C k 42 [some (.inr (.inr (some x0))), z1, some (.inl x2), some (.inl s.1), some (.inl s.2.1), z5, z6, z7] [] s.2.2) (fun q => k (some (.inl q.1)) q.2)))), (160, kp_79_160 (fun y0 y2 y3 y4 τ => y0 = x0 ∧ y2 = x2 ∧ oW (f_79_160 (px_tb C) τ y0 y2 y3 y4) (Sum.elim (fun s : Int32 × Int32 × px_M => ∀ (z1 : Option px_V) (z5 : Option px_V) (z6 : Option px_V) (z7 : Option px_V), px_W C k 42 [some (.inr (.inr (some x0))), z1, some (.inl x2), some (.inl s.1), some (.inl s.2.1), z5, z6, z7] [] s.2.2) (fun q => k (some (.inl q.1)) q.2))))] 80 8 (some .int) rfl rfl hC (px_sp1 (mf_14 hn (by omega)) (px_sp1 (mf_31 hn (by omega)) (px_sp1 (mf_57 hn (by omega)) px_nosp))) (by omega) (px_cut1 (kq_79_126 (fun y0 y2 y3 y4 y5 y6 y7 τ hq => by obtain ⟨rfl, rfl, hq⟩ := hq; exact rl_79_126 hn (by omega) hC  hq)) (px_cut1 (kq_79_160 (fun y0 y2 y3 y4 τ hq => by obtain ⟨rfl, rfl, hq⟩ := hq; exact rl_79_160 hn (by omega) hC  hq)) px_nocut)) (fun G Jf hG hJf => ?_)
  unfold f_79_87 at hs
  by_cases hc0 : x7 = nI 0
  · replace hs := oW_t hs hc0
    obtain ⟨hc1, hs⟩ := oW_gx hs
    obtain ⟨q1, hc2, hs⟩ := oW_bx hs
    by_cases hc3 : q1.1 = nI 0
    · replace hs := oW_t hs hc3
      simp only [↓hG, ↓hJf, ↓px_vc, ↓px_ex, ↓px_jp, ↓px_gi, ↓px_gl, ↓px_gr, ↓px_s1, ↓px_s2, ↓px_nl, ↓px_i1, ↓px_l1, ↓r1_s, ↓px_q1, ↓px_i2, ↓px_l2, ↓px_il, ↓px_d0, ↓px_d1, ↓px_d2, ↓px_pop, ↓px_sp, ↓px_rd, ↓px_rf, ↓pn_xf, ↓px_pt, ↓px_sw, ↓pn_SW, ↓reduceIte, Nat.reduceEqDiff, Nat.reduceAdd, Nat.reduceSub, ↓Option.toList_some, ↓Option.toList_none, ↓List.cons_append, ↓List.nil_append, ↓kI_s, ↓kJ_s, ↓kN_s, ↓kO_s, ↓kZ_s, ↓kE_s, ↓an_rfl, ↓bt1 n00, ↓bt2 n00, ↓bf1 n10, ↓bf2 n10, ↓an_sz0, ↓an_sz1, ↓an_sz2, ↓an_sz3, ↓an_sz4, ↓an_ri, ↓an_rb0, ↓an_rb1, ↓an_b0, ↓an_b1, true_and, ↓ai_0s, ↓al_0s, ↓av_0s, ↓aq_0s, ↓ai_1s, ↓al_1s, ↓av_1s, ↓aq_1s, ↓ai_2s, ↓al_2s, ↓av_2s, ↓aq_2s, ↓ai_3s, ↓al_3s, ↓av_3s, ↓aq_3s, ↓ai_4s, ↓al_4s, ↓av_4s, ↓aq_4s, ↓ai_5s, ↓al_5s, ↓av_5s, ↓aq_5s, ↓ai_6s, ↓al_6s, ↓av_6s, ↓aq_6s, ↓ai_7s, ↓al_7s, ↓av_7s, ↓aq_7s, ↓an_l8, ↓bk_79, ↓Sg_14, ↓Sg_31, ↓Sg_57, ↓kp_79_126, ↓kp_79_160, ↓bt1 hc0, ↓bt2 hc0, ↓an_t hc1, ↓an_rv hc1, ↓oW_e hc2, ↓bt1 hc3, ↓bt2 hc3]
      exact hs
    · replace hs := oW_f hs hc3
      simp only [↓hG, ↓hJf, ↓px_vc, ↓px_ex, ↓px_jp, ↓px_gi, ↓px_gl, ↓px_gr, ↓px_s1, ↓px_s2, ↓px_nl, ↓px_i1, ↓px_l1, ↓r1_s, ↓px_q1, ↓px_i2, ↓px_l2, ↓px_il, ↓px_d0, ↓px_d1, ↓px_d2, ↓px_pop, ↓px_sp, ↓px_rd, ↓px_rf, ↓pn_xf, ↓px_pt, ↓px_sw, ↓pn_SW, ↓reduceIte, Nat.reduceEqDiff, Nat.reduceAdd, Nat.reduceSub, ↓Option.toList_some, ↓Option.toList_none, ↓List.cons_append, ↓List.nil_append, ↓kI_s, ↓kJ_s, ↓kN_s, ↓kO_s, ↓kZ_s, ↓kE_s, ↓an_rfl, ↓bt1 n00, ↓bt2 n00, ↓bf1 n10, ↓bf2 n10, ↓an_sz0, ↓an_sz1, ↓an_sz2, ↓an_sz3, ↓an_sz4, ↓an_ri, ↓an_rb0, ↓an_rb1, ↓an_b0, ↓an_b1, true_and, ↓ai_0s, ↓al_0s, ↓av_0s, ↓aq_0s, ↓ai_1s, ↓al_1s, ↓av_1s, ↓aq_1s, ↓ai_2s, ↓al_2s, ↓av_2s, ↓aq_2s, ↓ai_3s, ↓al_3s, ↓av_3s, ↓aq_3s, ↓ai_4s, ↓al_4s, ↓av_4s, ↓aq_4s, ↓ai_5s, ↓al_5s, ↓av_5s, ↓aq_5s, ↓ai_6s, ↓al_6s, ↓av_6s, ↓aq_6s, ↓ai_7s, ↓al_7s, ↓av_7s, ↓aq_7s, ↓an_l8, ↓bk_79, ↓Sg_14, ↓Sg_31, ↓Sg_57, ↓kp_79_126, ↓kp_79_160, ↓bt1 hc0, ↓bt2 hc0, ↓an_t hc1, ↓an_rv hc1, ↓oW_e hc2, ↓bf1 hc3, ↓bf2 hc3]
      exact hs
  · replace hs := oW_f hs hc0
    obtain ⟨hc1, hs⟩ := oW_gx hs
    obtain ⟨r2, hc2, hs⟩ := oW_bx hs
    obtain ⟨r3, hc3, hs⟩ := oW_bx hs
    by_cases hc4 : r3 = nI 0
    · replace hs := bW_t hs hc4
      simp only [↓hG, ↓hJf, ↓px_vc, ↓px_ex, ↓px_jp, ↓px_gi, ↓px_gl, ↓px_gr, ↓px_s1, ↓px_s2, ↓px_nl, ↓px_i1, ↓px_l1, ↓r1_s, ↓px_q1, ↓px_i2, ↓px_l2, ↓px_il, ↓px_d0, ↓px_d1, ↓px_d2, ↓px_pop, ↓px_sp, ↓px_rd, ↓px_rf, ↓pn_xf, ↓px_pt, ↓px_sw, ↓pn_SW, ↓reduceIte, Nat.reduceEqDiff, Nat.reduceAdd, Nat.reduceSub, ↓Option.toList_some, ↓Option.toList_none, ↓List.cons_append, ↓List.nil_append, ↓kI_s, ↓kJ_s, ↓kN_s, ↓kO_s, ↓kZ_s, ↓kE_s, ↓an_rfl, ↓bt1 n00, ↓bt2 n00, ↓bf1 n10, ↓bf2 n10, ↓an_sz0, ↓an_sz1, ↓an_sz2, ↓an_sz3, ↓an_sz4, ↓an_ri, ↓an_rb0, ↓an_rb1, ↓an_b0, ↓an_b1, true_and, ↓ai_0s, ↓al_0s, ↓av_0s, ↓aq_0s, ↓ai_1s, ↓al_1s, ↓av_1s, ↓aq_1s, ↓ai_2s, ↓al_2s, ↓av_2s, ↓aq_2s, ↓ai_3s, ↓al_3s, ↓av_3s, ↓aq_3s, ↓ai_4s, ↓al_4s, ↓av_4s, ↓aq_4s, ↓ai_5s, ↓al_5s, ↓av_5s, ↓aq_5s, ↓ai_6s, ↓al_6s, ↓av_6s, ↓aq_6s, ↓ai_7s, ↓al_7s, ↓av_7s, ↓aq_7s, ↓an_l8, ↓bk_79, ↓Sg_14, ↓Sg_31, ↓Sg_57, ↓kp_79_126, ↓kp_79_160, ↓bf1 hc0, ↓bf2 hc0, ↓an_t hc1, ↓an_rv hc1, ↓oW_e hc2, ↓oW_e hc3, ↓bt1 hc4, ↓bt2 hc4]
      exact hs
    · replace hs := bW_f hs hc4
      simp only [↓hG, ↓hJf, ↓px_vc, ↓px_ex, ↓px_jp, ↓px_gi, ↓px_gl, ↓px_gr, ↓px_s1, ↓px_s2, ↓px_nl, ↓px_i1, ↓px_l1, ↓r1_s, ↓px_q1, ↓px_i2, ↓px_l2, ↓px_il, ↓px_d0, ↓px_d1, ↓px_d2, ↓px_pop, ↓px_sp, ↓px_rd, ↓px_rf, ↓pn_xf, ↓px_pt, ↓px_sw, ↓pn_SW, ↓reduceIte, Nat.reduceEqDiff, Nat.reduceAdd, Nat.reduceSub, ↓Option.toList_some, ↓Option.toList_none, ↓List.cons_append, ↓List.nil_append, ↓kI_s, ↓kJ_s, ↓kN_s, ↓kO_s, ↓kZ_s, ↓kE_s, ↓an_rfl, ↓bt1 n00, ↓bt2 n00, ↓bf1 n10, ↓bf2 n10, ↓an_sz0, ↓an_sz1, ↓an_sz2, ↓an_sz3, ↓an_sz4, ↓an_ri, ↓an_rb0, ↓an_rb1, ↓an_b0, ↓an_b1, true_and, ↓ai_0s, ↓al_0s, ↓av_0s, ↓aq_0s, ↓ai_1s, ↓al_1s, ↓av_1s, ↓aq_1s, ↓ai_2s, ↓al_2s, ↓av_2s, ↓aq_2s, ↓ai_3s, ↓al_3s, ↓av_3s, ↓aq_3s, ↓ai_4s, ↓al_4s, ↓av_4s, ↓aq_4s, ↓ai_5s, ↓al_5s, ↓av_5s, ↓aq_5s, ↓ai_6s, ↓al_6s, ↓av_6s, ↓aq_6s, ↓ai_7s, ↓al_7s, ↓av_7s, ↓aq_7s, ↓an_l8, ↓bk_79, ↓Sg_14, ↓Sg_31, ↓Sg_57, ↓kp_79_126, ↓kp_79_160, ↓bf1 hc0, ↓bf2 hc0, ↓an_t hc1, ↓an_rv hc1, ↓oW_e hc2, ↓oW_e hc3, ↓bf1 hc4, ↓bf2 hc4]
      exact hs
set_option maxHeartbeats 4000000 in
set_option maxRecDepth 100000 in
theorem rl_79_72 {C : px_C} (hn : px_nd (px_tb C)) {h : Nat} (hh : 33 ≤ h) (hC : px_ok C pn_i79 h) {k : Option px_V → px_M → Prop} {x0 : Nat} {x2 : Int32} {x3 : Int32} {x4 : Int32} {x5 : Int32} {x6 : Int32} {σ : px_M} (hs : oW (f_79_72 (px_tb C) σ x0 x2 x3 x4 x5 x6) (Sum.elim (fun s : Int32 × Int32 × px_M => ∀ (z1 : Option px_V) (z5 : Option px_V) (z6 : Option px_V) (z7 : Option px_V), px_W C k 42 [some (.inr (.inr (some x0))), z1, some (.inl x2), some (.inl s.1), some (.inl s.2.1), z5, z6, z7] [] s.2.2) (fun q => k (some (.inl q.1)) q.2))) : ∀ (z1 : Option px_V) (z7 : Option px_V), px_W C k 72 [some (.inr (.inr (some x0))), z1, some (.inl x2), some (.inl x3), some (.inl x4), some (.inl x5), some (.inl x6), z7] [] σ := by
  intro z1 z7
  refine px_runH (h - 1) ck_79 [(78, Sg_78 (f_78 (px_tb C)))] [(87, kp_79_87 (fun y0 y2 y3 y4 y5 y6 y7 τ => y0 = x0 ∧ y2 = x2 ∧ oW (f_79_87 (px_tb C) τ y0 y2 y3 y4 y5 y6 y7) (Sum.elim (fun s : Int32 × Int32 × px_M => ∀ (z1 : Option px_V) (z5 : Option px_V) (z6 : Option px_V) (z7 : Option px_V), px_W C k 42 [some (.inr (.inr (some x0))), z1, some (.inl x2), some (.inl s.1), some (.inl s.2.1), z5, z6, z7] [] s.2.2) (fun q => k (some (.inl q.1)) q.2))))] 80 8 (some .int) rfl rfl hC (px_sp1 (mf_78 hn (by omega)) px_nosp) (by omega) (px_cut1 (kq_79_87 (fun y0 y2 y3 y4 y5 y6 y7 τ hq => by obtain ⟨rfl, rfl, hq⟩ := hq; exact rl_79_87 hn (by omega) hC  hq)) px_nocut) (fun G Jf hG hJf => ?_)
  unfold f_79_72 at hs
  obtain ⟨hc0, hs⟩ := oW_gx hs
  obtain ⟨q1, hc1, hs⟩ := oW_bx hs
  by_cases hc2 : q1.1 = nI 0
  · replace hs := bW_t hs hc2
    simp only [↓hG, ↓hJf, ↓px_vc, ↓px_ex, ↓px_jp, ↓px_gi, ↓px_gl, ↓px_gr, ↓px_s1, ↓px_s2, ↓px_nl, ↓px_i1, ↓px_l1, ↓r1_s, ↓px_q1, ↓px_i2, ↓px_l2, ↓px_il, ↓px_d0, ↓px_d1, ↓px_d2, ↓px_pop, ↓px_sp, ↓px_rd, ↓px_rf, ↓pn_xf, ↓px_pt, ↓px_sw, ↓pn_SW, ↓reduceIte, Nat.reduceEqDiff, Nat.reduceAdd, Nat.reduceSub, ↓Option.toList_some, ↓Option.toList_none, ↓List.cons_append, ↓List.nil_append, ↓kI_s, ↓kJ_s, ↓kN_s, ↓kO_s, ↓kZ_s, ↓kE_s, ↓an_rfl, ↓bt1 n00, ↓bt2 n00, ↓bf1 n10, ↓bf2 n10, ↓an_sz0, ↓an_sz1, ↓an_sz2, ↓an_sz3, ↓an_sz4, ↓an_ri, ↓an_rb0, ↓an_rb1, ↓an_b0, ↓an_b1, true_and, ↓ai_0s, ↓al_0s, ↓av_0s, ↓aq_0s, ↓ai_1s, ↓al_1s, ↓av_1s, ↓aq_1s, ↓ai_2s, ↓al_2s, ↓av_2s, ↓aq_2s, ↓ai_3s, ↓al_3s, ↓av_3s, ↓aq_3s, ↓ai_4s, ↓al_4s, ↓av_4s, ↓aq_4s, ↓ai_5s, ↓al_5s, ↓av_5s, ↓aq_5s, ↓ai_6s, ↓al_6s, ↓av_6s, ↓aq_6s, ↓ai_7s, ↓al_7s, ↓av_7s, ↓aq_7s, ↓an_l8, ↓bk_79, ↓Sg_78, ↓kp_79_87, ↓an_t hc0, ↓an_rv hc0, ↓oW_e hc1, ↓bt1 hc2, ↓bt2 hc2]
    exact hs
  · replace hs := bW_f hs hc2
    simp only [↓hG, ↓hJf, ↓px_vc, ↓px_ex, ↓px_jp, ↓px_gi, ↓px_gl, ↓px_gr, ↓px_s1, ↓px_s2, ↓px_nl, ↓px_i1, ↓px_l1, ↓r1_s, ↓px_q1, ↓px_i2, ↓px_l2, ↓px_il, ↓px_d0, ↓px_d1, ↓px_d2, ↓px_pop, ↓px_sp, ↓px_rd, ↓px_rf, ↓pn_xf, ↓px_pt, ↓px_sw, ↓pn_SW, ↓reduceIte, Nat.reduceEqDiff, Nat.reduceAdd, Nat.reduceSub, ↓Option.toList_some, ↓Option.toList_none, ↓List.cons_append, ↓List.nil_append, ↓kI_s, ↓kJ_s, ↓kN_s, ↓kO_s, ↓kZ_s, ↓kE_s, ↓an_rfl, ↓bt1 n00, ↓bt2 n00, ↓bf1 n10, ↓bf2 n10, ↓an_sz0, ↓an_sz1, ↓an_sz2, ↓an_sz3, ↓an_sz4, ↓an_ri, ↓an_rb0, ↓an_rb1, ↓an_b0, ↓an_b1, true_and, ↓ai_0s, ↓al_0s, ↓av_0s, ↓aq_0s, ↓ai_1s, ↓al_1s, ↓av_1s, ↓aq_1s, ↓ai_2s, ↓al_2s, ↓av_2s, ↓aq_2s, ↓ai_3s, ↓al_3s, ↓av_3s, ↓aq_3s, ↓ai_4s, ↓al_4s, ↓av_4s, ↓aq_4s, ↓ai_5s, ↓al_5s, ↓av_5s, ↓aq_5s, ↓ai_6s, ↓al_6s, ↓av_6s, ↓aq_6s, ↓ai_7s, ↓al_7s, ↓av_7s, ↓aq_7s, ↓an_l8, ↓bk_79, ↓Sg_78, ↓kp_79_87, ↓an_t hc0, ↓an_rv hc0, ↓oW_e hc1, ↓bf1 hc2, ↓bf2 hc2]
    exact hs
set_option maxHeartbeats 4000000 in
set_option maxRecDepth 100000 in
theorem rl_79_42 {C : px_C} (hn : px_nd (px_tb C)) {h : Nat} (hh : 33 ≤ h) (hC : px_ok C pn_i79 h) {k : Option px_V → px_M → Prop} {x0 : Nat} {x2 : Int32} : ∀ s : Int32 × Int32 × px_M, oW (f_79_42 (px_tb C) x0 x2 s.1 s.2.1 s.2.2) (fun q => k (some (.inl q.1)) q.2) → (fun s : Int32 × Int32 × px_M => ∀ (z1 : Option px_V) (z5 : Option px_V) (z6 : Option px_V) (z7 : Option px_V), px_W C k 42 [some (.inr (.inr (some x0))), z1, some (.inl x2), some (.inl s.1), some (.inl s.2.1), z5, z6, z7] [] s.2.2) s := by
  intro s h0
  refine lpO_sound (P := (fun s : Int32 × Int32 × px_M => ∀ (z1 : Option px_V) (z5 : Option px_V) (z6 : Option px_V) (z7 : Option px_V), px_W C k 42 [some (.inr (.inr (some x0))), z1, some (.inl x2), some (.inl s.1), some (.inl s.2.1), z5, z6, z7] [] s.2.2)) (fun s hs => ?_) h0
  obtain ⟨x3, x4, σ⟩ := s
  intro z1 z5 z6 z7
  refine px_runH (h - 1) ck_79 [(78, Sg_78 (f_78 (px_tb C)))] [(72, kp_79_72 (fun y0 y2 y3 y4 y5 y6 τ => y0 = x0 ∧ y2 = x2 ∧ oW (f_79_72 (px_tb C) τ y0 y2 y3 y4 y5 y6) (Sum.elim (fun s : Int32 × Int32 × px_M => ∀ (z1 : Option px_V) (z5 : Option px_V) (z6 : Option px_V) (z7 : Option px_V), px_W C k 42 [some (.inr (.inr (some x0))), z1, some (.inl x2), some (.inl s.1), some (.inl s.2.1), z5, z6, z7] [] s.2.2) (fun q => k (some (.inl q.1)) q.2))))] 80 8 (some .int) rfl rfl hC (px_sp1 (mf_78 hn (by omega)) px_nosp) (by omega) (px_cut1 (kq_79_72 (fun y0 y2 y3 y4 y5 y6 τ hq => by obtain ⟨rfl, rfl, hq⟩ := hq; exact rl_79_72 hn (by omega) hC  hq)) px_nocut) (fun G Jf hG hJf => ?_)
  replace hs : oW (F_79_42 (px_tb C) x0 x2 x3 x4 σ) _ := hs
  unfold F_79_42 at hs
  by_cases hc0 : x2 ≤ x4
  · replace hs := oW_t hs hc0
    simp only [↓hG, ↓hJf, ↓px_vc, ↓px_ex, ↓px_jp, ↓px_gi, ↓px_gl, ↓px_gr, ↓px_s1, ↓px_s2, ↓px_nl, ↓px_i1, ↓px_l1, ↓r1_s, ↓px_q1, ↓px_i2, ↓px_l2, ↓px_il, ↓px_d0, ↓px_d1, ↓px_d2, ↓px_pop, ↓px_sp, ↓px_rd, ↓px_rf, ↓pn_xf, ↓px_pt, ↓px_sw, ↓pn_SW, ↓reduceIte, Nat.reduceEqDiff, Nat.reduceAdd, Nat.reduceSub, ↓Option.toList_some, ↓Option.toList_none, ↓List.cons_append, ↓List.nil_append, ↓kI_s, ↓kJ_s, ↓kN_s, ↓kO_s, ↓kZ_s, ↓kE_s, ↓an_rfl, ↓bt1 n00, ↓bt2 n00, ↓bf1 n10, ↓bf2 n10, ↓an_sz0, ↓an_sz1, ↓an_sz2, ↓an_sz3, ↓an_sz4, ↓an_ri, ↓an_rb0, ↓an_rb1, ↓an_b0, ↓an_b1, true_and, ↓ai_0s, ↓al_0s, ↓av_0s, ↓aq_0s, ↓ai_1s, ↓al_1s, ↓av_1s, ↓aq_1s, ↓ai_2s, ↓al_2s, ↓av_2s, ↓aq_2s, ↓ai_3s, ↓al_3s, ↓av_3s, ↓aq_3s, ↓ai_4s, ↓al_4s, ↓av_4s, ↓aq_4s, ↓ai_5s, ↓al_5s, ↓av_5s, ↓aq_5s, ↓ai_6s, ↓al_6s, ↓av_6s, ↓aq_6s, ↓ai_7s, ↓al_7s, ↓av_7s, ↓aq_7s, ↓an_l8, ↓bk_79, ↓Sg_78, ↓kp_79_72, ↓bt1 hc0, ↓bt2 hc0]
    rw [oW_some] at hs
    exact hs
  · replace hs := oW_f hs hc0
    obtain ⟨hc1, hs⟩ := oW_gx hs
    obtain ⟨n1, hc2, hs⟩ := oW_bx hs
    obtain ⟨t2, l3, hc3, hs⟩ := oW_ax hs
    obtain ⟨hc4, hs⟩ := oW_gx hs
    obtain ⟨hc5, hs⟩ := oW_gx hs
    obtain ⟨q4, hc6, hs⟩ := oW_bx hs
    obtain ⟨n5, hc7, hs⟩ := oW_bx hs
    obtain ⟨t6, l7, hc8, hs⟩ := oW_ax hs
    obtain ⟨hc9, hs⟩ := oW_gx hs
    obtain ⟨hc10, hs⟩ := oW_gx hs
    obtain ⟨q8, hc11, hs⟩ := oW_bx hs
    simp only [↓hG, ↓hJf, ↓px_vc, ↓px_ex, ↓px_jp, ↓px_gi, ↓px_gl, ↓px_gr, ↓px_s1, ↓px_s2, ↓px_nl, ↓px_i1, ↓px_l1, ↓r1_s, ↓px_q1, ↓px_i2, ↓px_l2, ↓px_il, ↓px_d0, ↓px_d1, ↓px_d2, ↓px_pop, ↓px_sp, ↓px_rd, ↓px_rf, ↓pn_xf, ↓px_pt, ↓px_sw, ↓pn_SW, ↓reduceIte, Nat.reduceEqDiff, Nat.reduceAdd, Nat.reduceSub, ↓Option.toList_some, ↓Option.toList_none, ↓List.cons_append, ↓List.nil_append, ↓kI_s, ↓kJ_s, ↓kN_s, ↓kO_s, ↓kZ_s, ↓kE_s, ↓an_rfl, ↓bt1 n00, ↓bt2 n00, ↓bf1 n10, ↓bf2 n10, ↓an_sz0, ↓an_sz1, ↓an_sz2, ↓an_sz3, ↓an_sz4, ↓an_ri, ↓an_rb0, ↓an_rb1, ↓an_b0, ↓an_b1, true_and, ↓ai_0s, ↓al_0s, ↓av_0s, ↓aq_0s, ↓ai_1s, ↓al_1s, ↓av_1s, ↓aq_1s, ↓ai_2s, ↓al_2s, ↓av_2s, ↓aq_2s, ↓ai_3s, ↓al_3s, ↓av_3s, ↓aq_3s, ↓ai_4s, ↓al_4s, ↓av_4s, ↓aq_4s, ↓ai_5s, ↓al_5s, ↓av_5s, ↓aq_5s, ↓ai_6s, ↓al_6s, ↓av_6s, ↓aq_6s, ↓ai_7s, ↓al_7s, ↓av_7s, ↓aq_7s, ↓an_l8, ↓bk_79, ↓Sg_78, ↓kp_79_72, ↓bf1 hc0, ↓bf2 hc0, ↓an_t hc1, ↓an_rv hc1, ↓r1_e hc2, ↓av_0e hc2, ↓av_1e hc2, ↓av_2e hc2, ↓av_3e hc2, ↓ar_e hc3, ↓an_t hc4, ↓an_t hc5, ↓oW_e hc6, ↓r1_e hc7, ↓av_0e hc7, ↓av_1e hc7, ↓av_2e hc7, ↓av_3e hc7, ↓ar_e hc8, ↓an_t hc9, ↓an_t hc10, ↓oW_e hc11]
    exact hs
set_option maxHeartbeats 4000000 in
set_option maxRecDepth 100000 in
theorem rl_79_39 {C : px_C} (hn : px_nd (px_tb C)) {h : Nat} (hh : 33 ≤ h) (hC : px_ok C pn_i79 h) {k : Option px_V → px_M → Prop} {x0 : Nat} {x2 : Int32} {x3 : Int32} {σ : px_M} (hs : oW (f_79_39 (px_tb C) σ x0 x2 x3) (fun q => k (some (.inl q.1)) q.2)) : ∀ (z1 : Option px_V) (z4 : Option px_V) (z5 : Option px_V) (z6 : Option px_V) (z7 : Option px_V), px_W C k 39 [some (.inr (.inr (some x0))), z1, some (.inl x2), some (.inl x3), z4, z5, z6, z7] [] σ := by
  intro z1 z4 z5 z6 z7
  refine px_runH (h - 1) ck_79 [] [(42, kp_79_42 (fun y0 y2 y3 y4 τ => oW (f_79_42 (px_tb C) y0 y2 y3 y4 τ) (fun q => k (some (.inl q.1)) q.2)))] 80 8 (some .int) rfl rfl hC px_nosp (by omega) (px_cut1 (kq_79_42 (fun y0 y2 y3 y4 τ hq => by exact rl_79_42 hn (by omega) hC (y3, y4, τ) hq)) px_nocut) (fun G Jf hG hJf => ?_)
  unfold f_79_39 at hs
  simp only [↓hG, ↓hJf, ↓px_vc, ↓px_ex, ↓px_jp, ↓px_gi, ↓px_gl, ↓px_gr, ↓px_s1, ↓px_s2, ↓px_nl, ↓px_i1, ↓px_l1, ↓r1_s, ↓px_q1, ↓px_i2, ↓px_l2, ↓px_il, ↓px_d0, ↓px_d1, ↓px_d2, ↓px_pop, ↓px_sp, ↓px_rd, ↓px_rf, ↓pn_xf, ↓px_pt, ↓px_sw, ↓pn_SW, ↓reduceIte, Nat.reduceEqDiff, Nat.reduceAdd, Nat.reduceSub, ↓Option.toList_some, ↓Option.toList_none, ↓List.cons_append, ↓List.nil_append, ↓kI_s, ↓kJ_s, ↓kN_s, ↓kO_s, ↓kZ_s, ↓kE_s, ↓an_rfl, ↓bt1 n00, ↓bt2 n00, ↓bf1 n10, ↓bf2 n10, ↓an_sz0, ↓an_sz1, ↓an_sz2, ↓an_sz3, ↓an_sz4, ↓an_ri, ↓an_rb0, ↓an_rb1, ↓an_b0, ↓an_b1, true_and, ↓ai_0s, ↓al_0s, ↓av_0s, ↓aq_0s, ↓ai_1s, ↓al_1s, ↓av_1s, ↓aq_1s, ↓ai_2s, ↓al_2s, ↓av_2s, ↓aq_2s, ↓ai_3s, ↓al_3s, ↓av_3s, ↓aq_3s, ↓ai_4s, ↓al_4s, ↓av_4s, ↓aq_4s, ↓ai_5s, ↓al_5s, ↓av_5s, ↓aq_5s, ↓ai_6s, ↓al_6s, ↓av_6s, ↓aq_6s, ↓ai_7s, ↓al_7s, ↓av_7s, ↓aq_7s, ↓an_l8, ↓bk_79, ↓kp_79_42]
  exact hs
set_option maxHeartbeats 4000000 in
set_option maxRecDepth 100000 in
theorem mf_79 {tab : px_T} (hn : px_nd tab) {h : Nat} (hh : 33 ≤ h) : px_Ok tab pn_i79 h (Sg_79 (f_79 tab)) := by
  refine px_mth hn (by decide +kernel) (fun av σ k hS => ?_) (fun C hT hC av σ k hS => ?_)
  · obtain ⟨x0, av0, e0, h0⟩ := av_0p hS
    obtain ⟨x1, av1, e1, h1⟩ := ai_1p h0
    obtain ⟨x2, av2, e2, h2⟩ := ai_2p h1
    obtain ⟨ez, hs⟩ := h2
    subst ez
    subst e2
    subst e1
    subst e0
    exact Nat.le_of_ble_eq_true rfl
  · obtain ⟨x0, av0, e0, h0⟩ := av_0p hS
    obtain ⟨x1, av1, e1, h1⟩ := ai_1p h0
    obtain ⟨x2, av2, e2, h2⟩ := ai_2p h1
    obtain ⟨ez, hs⟩ := h2
    subst ez
    subst e2
    subst e1
    subst e0
    subst hT
    show px_W C k 0 [some (.inr (.inr (some x0))), some (.inl x1), some (.inl x2), none, none, none, none, none] [] σ
    refine px_runH (h - 1) ck_79 [(2, Sg_2 (f_2 (px_tb C)))] [(39, kp_79_39 (fun y0 y2 y3 τ => oW (f_79_39 (px_tb C) τ y0 y2 y3) (fun q => k (some (.inl q.1)) q.2)))] 80 8 (some .int) rfl rfl hC (px_sp1 (mf_2 hn (by omega)) px_nosp) (by omega) (px_cut1 (kq_79_39 (fun y0 y2 y3 τ hq => by exact rl_79_39 hn (by omega) hC  hq)) px_nocut) (fun G Jf hG hJf => ?_)
    unfold f_79 at hs
    obtain ⟨hc0, hs⟩ := oW_gx hs
    obtain ⟨r1, hc1, hs⟩ := oW_bx hs
    by_cases hc2 : r1 = nI 0
    · replace hs := bW_t hs hc2
      simp only [↓hG, ↓hJf, ↓px_vc, ↓px_ex, ↓px_jp, ↓px_gi, ↓px_gl, ↓px_gr, ↓px_s1, ↓px_s2, ↓px_nl, ↓px_i1, ↓px_l1, ↓r1_s, ↓px_q1, ↓px_i2, ↓px_l2, ↓px_il, ↓px_d0, ↓px_d1, ↓px_d2, ↓px_pop, ↓px_sp, ↓px_rd, ↓px_rf, ↓pn_xf, ↓px_pt, ↓px_sw, ↓pn_SW, ↓reduceIte, Nat.reduceEqDiff, Nat.reduceAdd, Nat.reduceSub, ↓Option.toList_some, ↓Option.toList_none, ↓List.cons_append, ↓List.nil_append, ↓kI_s, ↓kJ_s, ↓kN_s, ↓kO_s, ↓kZ_s, ↓kE_s, ↓an_rfl, ↓bt1 n00, ↓bt2 n00, ↓bf1 n10, ↓bf2 n10, ↓an_sz0, ↓an_sz1, ↓an_sz2, ↓an_sz3, ↓an_sz4, ↓an_ri, ↓an_rb0, ↓an_rb1, ↓an_b0, ↓an_b1, true_and, ↓ai_0s, ↓al_0s, ↓av_0s, ↓aq_0s, ↓ai_1s, ↓al_1s, ↓av_1s, ↓aq_1s, ↓ai_2s, ↓al_2s, ↓av_2s, ↓aq_2s, ↓ai_3s, ↓al_3s, ↓av_3s, ↓aq_3s, ↓ai_4s, ↓al_4s, ↓av_4s, ↓aq_4s, ↓ai_5s, ↓al_5s, ↓av_5s, ↓aq_5s, ↓ai_6s, ↓al_6s, ↓av_6s, ↓aq_6s, ↓ai_7s, ↓al_7s, ↓av_7s, ↓aq_7s, ↓an_l8, ↓bk_79, ↓Sg_2, ↓kp_79_39, ↓an_t hc0, ↓an_rv hc0, ↓oW_e hc1, ↓bt1 hc2, ↓bt2 hc2]
      rw [oW_some] at hs
      exact hs
    · replace hs := bW_f hs hc2
      obtain ⟨n2, hc3, hs⟩ := oW_bx hs
      obtain ⟨t3, l4, hc4, hs⟩ := oW_ax hs
      obtain ⟨hc5, hs⟩ := oW_gx hs
      obtain ⟨hc6, hs⟩ := oW_gx hs
      by_cases hc7 : (px_av t3 (px_wi σ x0 0 (nI 0)) n2 ((nI 1)).toNatClampNeg) = nI 0
      · replace hs := bW_t hs hc7
        simp only [↓hG, ↓hJf, ↓px_vc, ↓px_ex, ↓px_jp, ↓px_gi, ↓px_gl, ↓px_gr, ↓px_s1, ↓px_s2, ↓px_nl, ↓px_i1, ↓px_l1, ↓r1_s, ↓px_q1, ↓px_i2, ↓px_l2, ↓px_il, ↓px_d0, ↓px_d1, ↓px_d2, ↓px_pop, ↓px_sp, ↓px_rd, ↓px_rf, ↓pn_xf, ↓px_pt, ↓px_sw, ↓pn_SW, ↓reduceIte, Nat.reduceEqDiff, Nat.reduceAdd, Nat.reduceSub, ↓Option.toList_some, ↓Option.toList_none, ↓List.cons_append, ↓List.nil_append, ↓kI_s, ↓kJ_s, ↓kN_s, ↓kO_s, ↓kZ_s, ↓kE_s, ↓an_rfl, ↓bt1 n00, ↓bt2 n00, ↓bf1 n10, ↓bf2 n10, ↓an_sz0, ↓an_sz1, ↓an_sz2, ↓an_sz3, ↓an_sz4, ↓an_ri, ↓an_rb0, ↓an_rb1, ↓an_b0, ↓an_b1, true_and, ↓ai_0s, ↓al_0s, ↓av_0s, ↓aq_0s, ↓ai_1s, ↓al_1s, ↓av_1s, ↓aq_1s, ↓ai_2s, ↓al_2s, ↓av_2s, ↓aq_2s, ↓ai_3s, ↓al_3s, ↓av_3s, ↓aq_3s, ↓ai_4s, ↓al_4s, ↓av_4s, ↓aq_4s, ↓ai_5s, ↓al_5s, ↓av_5s, ↓aq_5s, ↓ai_6s, ↓al_6s, ↓av_6s, ↓aq_6s, ↓ai_7s, ↓al_7s, ↓av_7s, ↓aq_7s, ↓an_l8, ↓bk_79, ↓Sg_2, ↓kp_79_39, ↓an_t hc0, ↓an_rv hc0, ↓oW_e hc1, ↓bf1 hc2, ↓bf2 hc2, ↓r1_e hc3, ↓av_0e hc3, ↓av_1e hc3, ↓av_2e hc3, ↓av_3e hc3, ↓ar_e hc4, ↓an_t hc5, ↓an_t hc6, ↓bt1 hc7, ↓bt2 hc7]
        rw [oW_some] at hs
        exact hs
      · replace hs := bW_f hs hc7
        simp only [↓hG, ↓hJf, ↓px_vc, ↓px_ex, ↓px_jp, ↓px_gi, ↓px_gl, ↓px_gr, ↓px_s1, ↓px_s2, ↓px_nl, ↓px_i1, ↓px_l1, ↓r1_s, ↓px_q1, ↓px_i2, ↓px_l2, ↓px_il, ↓px_d0, ↓px_d1, ↓px_d2, ↓px_pop, ↓px_sp, ↓px_rd, ↓px_rf, ↓pn_xf, ↓px_pt, ↓px_sw, ↓pn_SW, ↓reduceIte, Nat.reduceEqDiff, Nat.reduceAdd, Nat.reduceSub, ↓Option.toList_some, ↓Option.toList_none, ↓List.cons_append, ↓List.nil_append, ↓kI_s, ↓kJ_s, ↓kN_s, ↓kO_s, ↓kZ_s, ↓kE_s, ↓an_rfl, ↓bt1 n00, ↓bt2 n00, ↓bf1 n10, ↓bf2 n10, ↓an_sz0, ↓an_sz1, ↓an_sz2, ↓an_sz3, ↓an_sz4, ↓an_ri, ↓an_rb0, ↓an_rb1, ↓an_b0, ↓an_b1, true_and, ↓ai_0s, ↓al_0s, ↓av_0s, ↓aq_0s, ↓ai_1s, ↓al_1s, ↓av_1s, ↓aq_1s, ↓ai_2s, ↓al_2s, ↓av_2s, ↓aq_2s, ↓ai_3s, ↓al_3s, ↓av_3s, ↓aq_3s, ↓ai_4s, ↓al_4s, ↓av_4s, ↓aq_4s, ↓ai_5s, ↓al_5s, ↓av_5s, ↓aq_5s, ↓ai_6s, ↓al_6s, ↓av_6s, ↓aq_6s, ↓ai_7s, ↓al_7s, ↓av_7s, ↓aq_7s, ↓an_l8, ↓bk_79, ↓Sg_2, ↓kp_79_39, ↓an_t hc0, ↓an_rv hc0, ↓oW_e hc1, ↓bf1 hc2, ↓bf2 hc2, ↓r1_e hc3, ↓av_0e hc3, ↓av_1e hc3, ↓av_2e hc3, ↓av_3e hc3, ↓ar_e hc4, ↓an_t hc5, ↓an_t hc6, ↓bf1 hc7, ↓bf2 hc7]
        exact hs
def Sg_80 (g : px_M → Nat → Int32 → Option (Int32 × px_M)) : px_S := fun av σ k => av_0 av (fun x0 av => ai_1 av (fun x1 av => av = [] ∧ oW (g σ x0 x1) (fun q => k (some (.inl q.1)) q.2)))
/-- NoThreeModel.three(I)I -/
noncomputable def f_80_121 (tab : px_T) (σ : px_M) (x0 : Nat) (x1 : Int32) (x2 : Int32) (x3 : Int32) (x4 : Int32) (x5 : Int32) : Option ((Int32 × Int32) ⊕ ((Int32 × Int32) ⊕ ((Int32 × Int32) ⊕ (Int32 × px_M)))) := some (.inl ((x2, (x5 + (nI 1)))))
noncomputable def f_80_98 (tab : px_T) (σ : px_M) (x0 : Nat) (x1 : Int32) (x2 : Int32) (x3 : Int32) (x4 : Int32) (x5 : Int32) : Option ((Int32 × Int32) ⊕ ((Int32 × Int32) ⊕ ((Int32 × Int32) ⊕ (Int32 × px_M)))) := bn (x2 = x1) (f_80_121 tab σ x0 x1 ((x2 + (nI 1))) x3 x4 x5) (some (.inr (.inr (.inr ((((((nI 10000) * x3) + ((nI 100) * x4)) + x5), σ))))))
noncomputable def f_80_80 (tab : px_T) (σ : px_M) (x0 : Nat) (x1 : Int32) (x2 : Int32) (x3 : Int32) (x4 : Int32) (x5 : Int32) : Option ((Int32 × Int32) ⊕ ((Int32 × Int32) ⊕ ((Int32 × Int32) ⊕ (Int32 × px_M)))) := gd (px_obj (px_lay tab x0) 0) ((f_31 tab σ x0 x4).bind fun r1 => (f_14 tab σ ((r1).toInt64) x5).bind fun r2 => bn (r2 = nI 0) (f_80_98 tab σ x0 x1 x2 x3 x4 x5) (f_80_121 tab σ x0 x1 x2 x3 x4 x5))
noncomputable def f_80_66 (tab : px_T) (σ : px_M) (x0 : Nat) (x1 : Int32) (x2 : Int32) (x3 : Int32) (x4 : Int32) (x5 : Int32) : Option ((Int32 × Int32) ⊕ ((Int32 × Int32) ⊕ ((Int32 × Int32) ⊕ (Int32 × px_M)))) := gd (px_obj (px_lay tab x0) 0) ((f_31 tab σ x0 x3).bind fun r1 => (f_14 tab σ ((r1).toInt64) x5).bind fun r2 => if r2 = nI 0 then (f_80_121 tab σ x0 x1 x2 x3 x4 x5) else (f_80_80 tab σ x0 x1 x2 x3 x4 x5))
noncomputable def F_80_41 (tab : px_T) (σ : px_M) (x0 : Nat) (x1 : Int32) (x3 : Int32) (x4 : Int32) (x2 : Int32) (x5 : Int32) : Option ((Int32 × Int32) ⊕ ((Int32 × Int32) ⊕ ((Int32 × Int32) ⊕ (Int32 × px_M)))) := gd (px_obj (px_lay tab x0) 0) ((((σ).2.2 x0 1)).bind fun n1 => oA (px_lay tab n1) fun t2 l3 => gd (t2 = 0 ∨ t2 = 11) (gd (vp_in (nI 1) l3) (if (px_av t2 σ n1 ((nI 1)).toNatClampNeg) ≤ x5 then (some (.inr (.inl ((x2, (x4 + (nI 1))))))) else ((f_31 tab σ x0 x3).bind fun r4 => (f_14 tab σ ((r4).toInt64) x4).bind fun r5 => if r5 = nI 0 then (f_80_121 tab σ x0 x1 x2 x3 x4 x5) else (f_80_66 tab σ x0 x1 x2 x3 x4 x5)))))
noncomputable def f_80_41 (tab : px_T) (σ : px_M) (x0 : Nat) (x1 : Int32) (x3 : Int32) (x4 : Int32) (x2 : Int32) (x5 : Int32) : Option ((Int32 × Int32) ⊕ ((Int32 × Int32) ⊕ (Int32 × px_M))) := lpO (fun s : Int32 × Int32 => F_80_41 tab σ x0 x1 x3 x4 s.1 s.2) (x2, x5)
theorem f_80_41_eq (tab : px_T) (σ : px_M) (x0 : Nat) (x1 : Int32) (x3 : Int32) (x4 : Int32) (x2 : Int32) (x5 : Int32) : f_80_41 tab σ x0 x1 x3 x4 x2 x5 = (F_80_41 tab σ x0 x1 x3 x4 x2 x5).bind (Sum.elim (fun s => f_80_41 tab σ x0 x1 x3 x4 s.1 s.2) some) := lpO_eq _ _
noncomputable def F_80_24 (tab : px_T) (σ : px_M) (x0 : Nat) (x1 : Int32) (x3 : Int32) (x2 : Int32) (x4 : Int32) : Option ((Int32 × Int32) ⊕ ((Int32 × Int32) ⊕ (Int32 × px_M))) := gd (px_obj (px_lay tab x0) 0) ((((σ).2.2 x0 1)).bind fun n1 => oA (px_lay tab n1) fun t2 l3 => gd (t2 = 0 ∨ t2 = 11) (gd (vp_in (nI 1) l3) (if (px_av t2 σ n1 ((nI 1)).toNatClampNeg) ≤ x4 then (some (.inr (.inl ((x2, (x3 + (nI 1))))))) else (f_80_41 tab σ x0 x1 x3 x4 x2 ((x4 + (nI 1)))))))
noncomputable def f_80_24 (tab : px_T) (σ : px_M) (x0 : Nat) (x1 : Int32) (x3 : Int32) (x2 : Int32) (x4 : Int32) : Option ((Int32 × Int32) ⊕ (Int32 × px_M)) := lpO (fun s : Int32 × Int32 => F_80_24 tab σ x0 x1 x3 s.1 s.2) (x2, x4)
theorem f_80_24_eq (tab : px_T) (σ : px_M) (x0 : Nat) (x1 : Int32) (x3 : Int32) (x2 : Int32) (x4 : Int32) : f_80_24 tab σ x0 x1 x3 x2 x4 = (F_80_24 tab σ x0 x1 x3 x2 x4).bind (Sum.elim (fun s => f_80_24 tab σ x0 x1 x3 s.1 s.2) some) := lpO_eq _ _
noncomputable def F_80_9 (tab : px_T) (σ : px_M) (x0 : Nat) (x1 : Int32) (x2 : Int32) (x3 : Int32) : Option ((Int32 × Int32) ⊕ (Int32 × px_M)) := gd (px_obj (px_lay tab x0) 0) ((((σ).2.2 x0 1)).bind fun n1 => oA (px_lay tab n1) fun t2 l3 => gd (t2 = 0 ∨ t2 = 11) (gd (vp_in (nI 1) l3) (if (px_av t2 σ n1 ((nI 1)).toNatClampNeg) ≤ x3 then (bn (x1 = (-1)) (some (.inr (((-1), σ)))) (some (.inr ((x2, σ))))) else (f_80_24 tab σ x0 x1 x3 x2 ((x3 + (nI 1)))))))
noncomputable def f_80_9 (tab : px_T) (σ : px_M) (x0 : Nat) (x1 : Int32) (x2 : Int32) (x3 : Int32) : Option (Int32 × px_M) := lpO (fun s : Int32 × Int32 => F_80_9 tab σ x0 x1 s.1 s.2) (x2, x3)
theorem f_80_9_eq (tab : px_T) (σ : px_M) (x0 : Nat) (x1 : Int32) (x2 : Int32) (x3 : Int32) : f_80_9 tab σ x0 x1 x2 x3 = (F_80_9 tab σ x0 x1 x2 x3).bind (Sum.elim (fun s => f_80_9 tab σ x0 x1 s.1 s.2) some) := lpO_eq _ _
noncomputable def f_80 (tab : px_T) (σ : px_M) (x0 : Nat) (x1 : Int32) : Option (Int32 × px_M) := gd (px_obj (px_lay tab x0) 0) (f_80_9 tab ((px_wi σ x0 0 (nI 0))) x0 x1 ((nI 0)) ((nI 0)))
def kp_80_121 (Q : Nat → Int32 → Int32 → Int32 → Int32 → Int32 → px_M → Prop) : px_P := fun ls st τ => st = [] ∧ kN ls (fun x0 ls => kI ls (fun x1 ls => kI ls (fun x2 ls => kI ls (fun x3 ls => kI ls (fun x4 ls => kI ls (fun x5 ls => kE ls (Q x0 x1 x2 x3 x4 x5 τ)))))))
theorem kq_80_121 {C : px_C} {k : Option px_V → px_M → Prop} {Q : Nat → Int32 → Int32 → Int32 → Int32 → Int32 → px_M → Prop} (H : ∀ (x0 : Nat) (x1 : Int32) (x2 : Int32) (x3 : Int32) (x4 : Int32) (x5 : Int32) (τ : px_M), Q x0 x1 x2 x3 x4 x5 τ → px_W C k 121 [some (.inr (.inr (some x0))), some (.inl x1), some (.inl x2), some (.inl x3), some (.inl x4), some (.inl x5)] [] τ) : ∀ ls st τ, kp_80_121 Q ls st τ → px_W C k 121 ls st τ := by
  intro ls st τ hz
  obtain ⟨ez, h0⟩ := hz
  obtain ⟨x0, l0, e0, h1⟩ := kN_sp h0
  obtain ⟨x1, l1, e1, h2⟩ := kI_sp h1
  obtain ⟨x2, l2, e2, h3⟩ := kI_sp h2
  obtain ⟨x3, l3, e3, h4⟩ := kI_sp h3
  obtain ⟨x4, l4, e4, h5⟩ := kI_sp h4
  obtain ⟨x5, l5, e5, h6⟩ := kI_sp h5
  obtain ⟨ey, hy⟩ := kE_sp h6
  subst ez
  subst ey
  subst e5
  subst e4
  subst e3
  subst e2
  subst e1
  subst e0
  exact H x0 x1 x2 x3 x4 x5 τ hy
def kp_80_98 (Q : Nat → Int32 → Int32 → Int32 → Int32 → Int32 → px_M → Prop) : px_P := fun ls st τ => st = [] ∧ kN ls (fun x0 ls => kI ls (fun x1 ls => kI ls (fun x2 ls => kI ls (fun x3 ls => kI ls (fun x4 ls => kI ls (fun x5 ls => kE ls (Q x0 x1 x2 x3 x4 x5 τ)))))))
theorem kq_80_98 {C : px_C} {k : Option px_V → px_M → Prop} {Q : Nat → Int32 → Int32 → Int32 → Int32 → Int32 → px_M → Prop} (H : ∀ (x0 : Nat) (x1 : Int32) (x2 : Int32) (x3 : Int32) (x4 : Int32) (x5 : Int32) (τ : px_M), Q x0 x1 x2 x3 x4 x5 τ → px_W C k 98 [some (.inr (.inr (some x0))), some (.inl x1), some (.inl x2), some (.inl x3), some (.inl x4), some (.inl x5)] [] τ) : ∀ ls st τ, kp_80_98 Q ls st τ → px_W C k 98 ls st τ := by
  intro ls st τ hz
  obtain ⟨ez, h0⟩ := hz
  obtain ⟨x0, l0, e0, h1⟩ := kN_sp h0
  obtain ⟨x1, l1, e1, h2⟩ := kI_sp h1
  obtain ⟨x2, l2, e2, h3⟩ := kI_sp h2
  obtain ⟨x3, l3, e3, h4⟩ := kI_sp h3
  obtain ⟨x4, l4, e4, h5⟩ := kI_sp h4
  obtain ⟨x5, l5, e5, h6⟩ := kI_sp h5
  obtain ⟨ey, hy⟩ := kE_sp h6
  subst ez
  subst ey
  subst e5
  subst e4
  subst e3
  subst e2
  subst e1
  subst e0
  exact H x0 x1 x2 x3 x4 x5 τ hy
def kp_80_80 (Q : Nat → Int32 → Int32 → Int32 → Int32 → Int32 → px_M → Prop) : px_P := fun ls st τ => st = [] ∧ kN ls (fun x0 ls => kI ls (fun x1 ls => kI ls (fun x2 ls => kI ls (fun x3 ls => kI ls (fun x4 ls => kI ls (fun x5 ls => kE ls (Q x0 x1 x2 x3 x4 x5 τ)))))))
theorem kq_80_80 {C : px_C} {k : Option px_V → px_M → Prop} {Q : Nat → Int32 → Int32 → Int32 → Int32 → Int32 → px_M → Prop} (H : ∀ (x0 : Nat) (x1 : Int32) (x2 : Int32) (x3 : Int32) (x4 : Int32) (x5 : Int32) (τ : px_M), Q x0 x1 x2 x3 x4 x5 τ → px_W C k 80 [some (.inr (.inr (some x0))), some (.inl x1), some (.inl x2), some (.inl x3), some (.inl x4), some (.inl x5)] [] τ) : ∀ ls st τ, kp_80_80 Q ls st τ → px_W C k 80 ls st τ := by
  intro ls st τ hz
  obtain ⟨ez, h0⟩ := hz
  obtain ⟨x0, l0, e0, h1⟩ := kN_sp h0
  obtain ⟨x1, l1, e1, h2⟩ := kI_sp h1
  obtain ⟨x2, l2, e2, h3⟩ := kI_sp h2
  obtain ⟨x3, l3, e3, h4⟩ := kI_sp h3
  obtain ⟨x4, l4, e4, h5⟩ := kI_sp h4
  obtain ⟨x5, l5, e5, h6⟩ := kI_sp h5
  obtain ⟨ey, hy⟩ := kE_sp h6
  subst ez
  subst ey
  subst e5
  subst e4
  subst e3
  subst e2
  subst e1
  subst e0
  exact H x0 x1 x2 x3 x4 x5 τ hy
def kp_80_66 (Q : Nat → Int32 → Int32 → Int32 → Int32 → Int32 → px_M → Prop) : px_P := fun ls st τ => st = [] ∧ kN ls (fun x0 ls => kI ls (fun x1 ls => kI ls (fun x2 ls => kI ls (fun x3 ls => kI ls (fun x4 ls => kI ls (fun x5 ls => kE ls (Q x0 x1 x2 x3 x4 x5 τ)))))))
theorem kq_80_66 {C : px_C} {k : Option px_V → px_M → Prop} {Q : Nat → Int32 → Int32 → Int32 → Int32 → Int32 → px_M → Prop} (H : ∀ (x0 : Nat) (x1 : Int32) (x2 : Int32) (x3 : Int32) (x4 : Int32) (x5 : Int32) (τ : px_M), Q x0 x1 x2 x3 x4 x5 τ → px_W C k 66 [some (.inr (.inr (some x0))), some (.inl x1), some (.inl x2), some (.inl x3), some (.inl x4), some (.inl x5)] [] τ) : ∀ ls st τ, kp_80_66 Q ls st τ → px_W C k 66 ls st τ := by
  intro ls st τ hz
  obtain ⟨ez, h0⟩ := hz
  obtain ⟨x0, l0, e0, h1⟩ := kN_sp h0
  obtain ⟨x1, l1, e1, h2⟩ := kI_sp h1
  obtain ⟨x2, l2, e2, h3⟩ := kI_sp h2
  obtain ⟨x3, l3, e3, h4⟩ := kI_sp h3
  obtain ⟨x4, l4, e4, h5⟩ := kI_sp h4
  obtain ⟨x5, l5, e5, h6⟩ := kI_sp h5
  obtain ⟨ey, hy⟩ := kE_sp h6
  subst ez
  subst ey
  subst e5
  subst e4
  subst e3
  subst e2
  subst e1
  subst e0
  exact H x0 x1 x2 x3 x4 x5 τ hy
def kp_80_41 (Q : Nat → Int32 → Int32 → Int32 → Int32 → Int32 → px_M → Prop) : px_P := fun ls st τ => st = [] ∧ kN ls (fun x0 ls => kI ls (fun x1 ls => kI ls (fun x2 ls => kI ls (fun x3 ls => kI ls (fun x4 ls => kI ls (fun x5 ls => kE ls (Q x0 x1 x2 x3 x4 x5 τ)))))))
theorem kq_80_41 {C : px_C} {k : Option px_V → px_M → Prop} {Q : Nat → Int32 → Int32 → Int32 → Int32 → Int32 → px_M → Prop} (H : ∀ (x0 : Nat) (x1 : Int32) (x2 : Int32) (x3 : Int32) (x4 : Int32) (x5 : Int32) (τ : px_M), Q x0 x1 x2 x3 x4 x5 τ → px_W C k 41 [some (.inr (.inr (some x0))), some (.inl x1), some (.inl x2), some (.inl x3), some (.inl x4), some (.inl x5)] [] τ) : ∀ ls st τ, kp_80_41 Q ls st τ → px_W C k 41 ls st τ := by
  intro ls st τ hz
  obtain ⟨ez, h0⟩ := hz
  obtain ⟨x0, l0, e0, h1⟩ := kN_sp h0
  obtain ⟨x1, l1, e1, h2⟩ := kI_sp h1
  obtain ⟨x2, l2, e2, h3⟩ := kI_sp h2
  obtain ⟨x3, l3, e3, h4⟩ := kI_sp h3
  obtain ⟨x4, l4, e4, h5⟩ := kI_sp h4
  obtain ⟨x5, l5, e5, h6⟩ := kI_sp h5
  obtain ⟨ey, hy⟩ := kE_sp h6
  subst ez
  subst ey
  subst e5
  subst e4
  subst e3
  subst e2
  subst e1
  subst e0
  exact H x0 x1 x2 x3 x4 x5 τ hy
def kp_80_24 (Q : Nat → Int32 → Int32 → Int32 → Int32 → px_M → Prop) : px_P := fun ls st τ => st = [] ∧ kN ls (fun x0 ls => kI ls (fun x1 ls => kI ls (fun x2 ls => kI ls (fun x3 ls => kI ls (fun x4 ls => kZ ls (fun ls => kE ls (Q x0 x1 x2 x3 x4 τ)))))))
theorem kq_80_24 {C : px_C} {k : Option px_V → px_M → Prop} {Q : Nat → Int32 → Int32 → Int32 → Int32 → px_M → Prop} (H : ∀ (x0 : Nat) (x1 : Int32) (x2 : Int32) (x3 : Int32) (x4 : Int32) (τ : px_M), Q x0 x1 x2 x3 x4 τ → ∀ (z5 : Option px_V), px_W C k 24 [some (.inr (.inr (some x0))), some (.inl x1), some (.inl x2), some (.inl x3), some (.inl x4), z5] [] τ) : ∀ ls st τ, kp_80_24 Q ls st τ → px_W C k 24 ls st τ := by
  intro ls st τ hz
  obtain ⟨ez, h0⟩ := hz
  obtain ⟨x0, l0, e0, h1⟩ := kN_sp h0
  obtain ⟨x1, l1, e1, h2⟩ := kI_sp h1
  obtain ⟨x2, l2, e2, h3⟩ := kI_sp h2
  obtain ⟨x3, l3, e3, h4⟩ := kI_sp h3
  obtain ⟨x4, l4, e4, h5⟩ := kI_sp h4
  obtain ⟨z5, l5, e5, h6⟩ := kZ_sp h5
  obtain ⟨ey, hy⟩ := kE_sp h6
  subst ez
  subst ey
  subst e5
  subst e4
  subst e3
  subst e2
  subst e1
  subst e0
  exact H x0 x1 x2 x3 x4 τ hy z5
def kp_80_9 (Q : Nat → Int32 → Int32 → Int32 → px_M → Prop) : px_P := fun ls st τ => st = [] ∧ kN ls (fun x0 ls => kI ls (fun x1 ls => kI ls (fun x2 ls => kI ls (fun x3 ls => kZ ls (fun ls => kZ ls (fun ls => kE ls (Q x0 x1 x2 x3 τ)))))))
theorem kq_80_9 {C : px_C} {k : Option px_V → px_M → Prop} {Q : Nat → Int32 → Int32 → Int32 → px_M → Prop} (H : ∀ (x0 : Nat) (x1 : Int32) (x2 : Int32) (x3 : Int32) (τ : px_M), Q x0 x1 x2 x3 τ → ∀ (z4 : Option px_V) (z5 : Option px_V), px_W C k 9 [some (.inr (.inr (some x0))), some (.inl x1), some (.inl x2), some (.inl x3), z4, z5] [] τ) : ∀ ls st τ, kp_80_9 Q ls st τ → px_W C k 9 ls st τ := by
  intro ls st τ hz
  obtain ⟨ez, h0⟩ := hz
  obtain ⟨x0, l0, e0, h1⟩ := kN_sp h0
  obtain ⟨x1, l1, e1, h2⟩ := kI_sp h1
  obtain ⟨x2, l2, e2, h3⟩ := kI_sp h2
  obtain ⟨x3, l3, e3, h4⟩ := kI_sp h3
  obtain ⟨z4, l4, e4, h5⟩ := kZ_sp h4
  obtain ⟨z5, l5, e5, h6⟩ := kZ_sp h5
  obtain ⟨ey, hy⟩ := kE_sp h6
  subst ez
  subst ey
  subst e5
  subst e4
  subst e3
  subst e2
  subst e1
  subst e0
  exact H x0 x1 x2 x3 τ hy z4 z5
set_option maxHeartbeats 4000000 in
set_option maxRecDepth 100000 in
theorem rl_80_121 {C : px_C} (hn : px_nd (px_tb C)) {h : Nat} (hh : 2 ≤ h) (hC : px_ok C pn_i80 h) {k : Option px_V → px_M → Prop} {x0 : Nat} {x1 : Int32} {x2 : Int32} {x3 : Int32} {x4 : Int32} {x5 : Int32} {σ : px_M} (hs : oW (f_80_121 (px_tb C) σ x0 x1 x2 x3 x4 x5) (Sum.elim (fun s : Int32 × Int32 => px_W C k 41 [some (.inr (.inr (some x0))), some (.inl x1), some (.inl s.1), some (.inl x3), some (.inl x4), some (.inl s.2)] [] σ) (Sum.elim (fun s : Int32 × Int32 => ∀ (z5 : Option px_V), px_W C k 24 [some (.inr (.inr (some x0))), some (.inl x1), some (.inl s.1), some (.inl x3), some (.inl s.2), z5] [] σ) (Sum.elim (fun s : Int32 × Int32 => ∀ (z4 : Option px_V) (z5 : Option px_V), px_W C k 9 [some (.inr (.inr (some x0))), some (.inl x1), some (.inl s.1), some (.inl s.2), z4, z5] [] σ) (fun q => k (some (.inl q.1)) q.2))))) : px_W C k 121 [some (.inr (.inr (some x0))), some (.inl x1), some (.inl x2), some (.inl x3), some (.inl x4), some (.inl x5)] [] σ := by
  refine px_runH (h - 1) ck_80 [] [(41, kp_80_41 (fun y0 y1 y2 y3 y4 y5 τ => y0 = x0 ∧ y1 = x1 ∧ y3 = x3 ∧ y4 = x4 ∧ τ = σ ∧ (fun s : Int32 × Int32 => px_W C k 41 [some (.inr (.inr (some x0))), some (.inl x1), some (.inl s.1), some (.inl x3), some (.inl x4), some (.inl s.2)] [] σ) (y2, y5)))] 80 6 (some .int) rfl rfl hC px_nosp (by omega) (px_cut1 (kq_80_41 (fun y0 y1 y2 y3 y4 y5 τ hq => by obtain ⟨rfl, rfl, rfl, rfl, rfl, hq⟩ := hq; exact hq)) px_nocut) (fun G Jf hG hJf => ?_)
  unfold f_80_121 at hs
  simp only [↓hG, ↓hJf, ↓px_vc, ↓px_ex, ↓px_jp, ↓px_gi, ↓px_gl, ↓px_gr, ↓px_s1, ↓px_s2, ↓px_nl, ↓px_i1, ↓px_l1, ↓r1_s, ↓px_q1, ↓px_i2, ↓px_l2, ↓px_il, ↓px_d0, ↓px_d1, ↓px_d2, ↓px_pop, ↓px_sp, ↓px_rd, ↓px_rf, ↓pn_xf, ↓px_pt, ↓px_sw, ↓pn_SW, ↓reduceIte, Nat.reduceEqDiff, Nat.reduceAdd, Nat.reduceSub, ↓Option.toList_some, ↓Option.toList_none, ↓List.cons_append, ↓List.nil_append, ↓kI_s, ↓kJ_s, ↓kN_s, ↓kO_s, ↓kZ_s, ↓kE_s, ↓an_rfl, ↓bt1 n00, ↓bt2 n00, ↓bf1 n10, ↓bf2 n10, ↓an_sz0, ↓an_sz1, ↓an_sz2, ↓an_sz3, ↓an_sz4, ↓an_ri, ↓an_rb0, ↓an_rb1, ↓an_b0, ↓an_b1, true_and, ↓ai_0s, ↓al_0s, ↓av_0s, ↓aq_0s, ↓ai_1s, ↓al_1s, ↓av_1s, ↓aq_1s, ↓ai_2s, ↓al_2s, ↓av_2s, ↓aq_2s, ↓ai_3s, ↓al_3s, ↓av_3s, ↓aq_3s, ↓ai_4s, ↓al_4s, ↓av_4s, ↓aq_4s, ↓ai_5s, ↓al_5s, ↓av_5s, ↓aq_5s, ↓ai_6s, ↓al_6s, ↓av_6s, ↓aq_6s, ↓ai_7s, ↓al_7s, ↓av_7s, ↓aq_7s, ↓an_l6, ↓bk_80, ↓kp_80_41]
  rw [oW_some] at hs
  exact hs
set_option maxHeartbeats 4000000 in
set_option maxRecDepth 100000 in
theorem rl_80_98 {C : px_C} (hn : px_nd (px_tb C)) {h : Nat} (hh : 2 ≤ h) (hC : px_ok C pn_i80 h) {k : Option px_V → px_M → Prop} {x0 : Nat} {x1 : Int32} {x2 : Int32} {x3 : Int32} {x4 : Int32} {x5 : Int32} {σ : px_M} (hs : oW (f_80_98 (px_tb C) σ x0 x1 x2 x3 x4 x5) (Sum.elim (fun s : Int32 × Int32 => px_W C k 41 [some (.inr (.inr (some x0))), some (.inl x1), some (.inl s.1), some (.inl x3), some (.inl x4), some (.inl s.2)] [] σ) (Sum.elim (fun s : Int32 × Int32 => ∀ (z5 : Option px_V), px_W C k 24 [some (.inr (.inr (some x0))), some (.inl x1), some (.inl s.1), some (.inl x3), some (.inl s.2), z5] [] σ) (Sum.elim (fun s : Int32 × Int32 => ∀ (z4 : Option px_V) (z5 : Option px_V), px_W C k 9 [some (.inr (.inr (some x0))), some (.inl x1), some (.inl s.1), some (.inl s.2), z4, z5] [] σ) (fun q => k (some (.inl q.1)) q.2))))) : px_W C k 98 [some (.inr (.inr (some x0))), some (.inl x1), some (.inl x2), some (.inl x3), some (.inl x4), some (.inl x5)] [] σ := by
  refine px_runH (h - 1) ck_80 [] [(121, kp_80_121 (fun y0 y1 y2 y3 y4 y5 τ => y0 = x0 ∧ y1 = x1 ∧ y3 = x3 ∧ y4 = x4 ∧ τ = σ ∧ oW (f_80_121 (px_tb C) τ y0 y1 y2 y3 y4 y5) (Sum.elim (fun s : Int32 × Int32 => px_W C k 41 [some (.inr (.inr (some x0))), some (.inl x1), some (.inl s.1), some (.inl x3), some (.inl x4), some (.inl s.2)] [] σ) (Sum.elim (fun s : Int32 × Int32 => ∀ (z5 : Option px_V), px_W C k 24 [some (.inr (.inr (some x0))), some (.inl x1), some (.inl s.1), some (.inl x3), some (.inl s.2), z5] [] σ) (Sum.elim (fun s : Int32 × Int32 => ∀ (z4 : Option px_V) (z5 : Option px_V), px_W C k 9 [some (.inr (.inr (some x0))), some (.inl x1), some (.inl s.1), some (.inl s.2), z4, z5] [] σ) (fun q => k (some (.inl q.1)) q.2))))))] 80 6 (some .int) rfl rfl hC px_nosp (by omega) (px_cut1 (kq_80_121 (fun y0 y1 y2 y3 y4 y5 τ hq => by obtain ⟨rfl, rfl, rfl, rfl, rfl, hq⟩ := hq; exact rl_80_121 hn (by omega) hC  hq)) px_nocut) (fun G Jf hG hJf => ?_)
  unfold f_80_98 at hs
  by_cases hc0 : x2 = x1
  · replace hs := bW_t hs hc0
    simp only [↓hG, ↓hJf, ↓px_vc, ↓px_ex, ↓px_jp, ↓px_gi, ↓px_gl, ↓px_gr, ↓px_s1, ↓px_s2, ↓px_nl, ↓px_i1, ↓px_l1, ↓r1_s, ↓px_q1, ↓px_i2, ↓px_l2, ↓px_il, ↓px_d0, ↓px_d1, ↓px_d2, ↓px_pop, ↓px_sp, ↓px_rd, ↓px_rf, ↓pn_xf, ↓px_pt, ↓px_sw, ↓pn_SW, ↓reduceIte, Nat.reduceEqDiff, Nat.reduceAdd, Nat.reduceSub, ↓Option.toList_some, ↓Option.toList_none, ↓List.cons_append, ↓List.nil_append, ↓kI_s, ↓kJ_s, ↓kN_s, ↓kO_s, ↓kZ_s, ↓kE_s, ↓an_rfl, ↓bt1 n00, ↓bt2 n00, ↓bf1 n10, ↓bf2 n10, ↓an_sz0, ↓an_sz1, ↓an_sz2, ↓an_sz3, ↓an_sz4, ↓an_ri, ↓an_rb0, ↓an_rb1, ↓an_b0, ↓an_b1, true_and, ↓ai_0s, ↓al_0s, ↓av_0s, ↓aq_0s, ↓ai_1s, ↓al_1s, ↓av_1s, ↓aq_1s, ↓ai_2s, ↓al_2s, ↓av_2s, ↓aq_2s, ↓ai_3s, ↓al_3s, ↓av_3s, ↓aq_3s, ↓ai_4s, ↓al_4s, ↓av_4s, ↓aq_4s, ↓ai_5s, ↓al_5s, ↓av_5s, ↓aq_5s, ↓ai_6s, ↓al_6s, ↓av_6s, ↓aq_6s, ↓ai_7s, ↓al_7s, ↓av_7s, ↓aq_7s, ↓an_l6, ↓bk_80, ↓kp_80_121, ↓bt1 hc0, ↓bt2 hc0]
    rw [oW_some] at hs
    exact hs
  · replace hs := bW_f hs hc0
    simp only [↓hG, ↓hJf, ↓px_vc, ↓px_ex, ↓px_jp, ↓px_gi, ↓px_gl, ↓px_gr, ↓px_s1, ↓px_s2, ↓px_nl, ↓px_i1, ↓px_l1, ↓r1_s, ↓px_q1, ↓px_i2, ↓px_l2, ↓px_il, ↓px_d0, ↓px_d1, ↓px_d2, ↓px_pop, ↓px_sp, ↓px_rd, ↓px_rf, ↓pn_xf, ↓px_pt, ↓px_sw, ↓pn_SW, ↓reduceIte, Nat.reduceEqDiff, Nat.reduceAdd, Nat.reduceSub, ↓Option.toList_some, ↓Option.toList_none, ↓List.cons_append, ↓List.nil_append, ↓kI_s, ↓kJ_s, ↓kN_s, ↓kO_s, ↓kZ_s, ↓kE_s, ↓an_rfl, ↓bt1 n00, ↓bt2 n00, ↓bf1 n10, ↓bf2 n10, ↓an_sz0, ↓an_sz1, ↓an_sz2, ↓an_sz3, ↓an_sz4, ↓an_ri, ↓an_rb0, ↓an_rb1, ↓an_b0, ↓an_b1, true_and, ↓ai_0s, ↓al_0s, ↓av_0s, ↓aq_0s, ↓ai_1s, ↓al_1s, ↓av_1s, ↓aq_1s, ↓ai_2s, ↓al_2s, ↓av_2s, ↓aq_2s, ↓ai_3s, ↓al_3s, ↓av_3s, ↓aq_3s, ↓ai_4s, ↓al_4s, ↓av_4s, ↓aq_4s, ↓ai_5s, ↓al_5s, ↓av_5s, ↓aq_5s, ↓ai_6s, ↓al_6s, ↓av_6s, ↓aq_6s, ↓ai_7s, ↓al_7s, ↓av_7s, ↓aq_7s, ↓an_l6, ↓bk_80, ↓kp_80_121, ↓bf1 hc0, ↓bf2 hc0]
    exact hs
set_option maxHeartbeats 4000000 in
set_option maxRecDepth 100000 in
theorem rl_80_80 {C : px_C} (hn : px_nd (px_tb C)) {h : Nat} (hh : 2 ≤ h) (hC : px_ok C pn_i80 h) {k : Option px_V → px_M → Prop} {x0 : Nat} {x1 : Int32} {x2 : Int32} {x3 : Int32} {x4 : Int32} {x5 : Int32} {σ : px_M} (hs : oW (f_80_80 (px_tb C) σ x0 x1 x2 x3 x4 x5) (Sum.elim (fun s : Int32 × Int32 => px_W C k 41 [some (.inr (.inr (some x0))), some (.inl x1), some (.inl s.1), some (.inl x3), some (.inl x4), some (.inl s.2)] [] σ) (Sum.elim (fun s : Int32 × Int32 => ∀ (z5 : Option px_V), px_W C k 24 [some (.inr (.inr (some x0))), some (.inl x1), some (.inl s.1), some (.inl x3), some (.inl s.2), z5] [] σ) (Sum.elim (fun s : Int32 × Int32 => ∀ (z4 : Option px_V) (z5 : Option px_V), px_W C k 9 [some (.inr (.inr (some x0))), some (.inl x1), some (.inl s.1), some (.inl s.2), z4, z5] [] σ) (fun q => k (some (.inl q.1)) q.2))))) : px_W C k 80 [some (.inr (.inr (some x0))), some (.inl x1), some (.inl x2), some (.inl x3), some (.inl x4), some (.inl x5)] [] σ := by
  refine px_runH (h - 1) ck_80 [(14, Sg_14 (f_14 (px_tb C))), (31, Sg_31 (f_31 (px_tb C)))] [(98, kp_80_98 (fun y0 y1 y2 y3 y4 y5 τ => y0 = x0 ∧ y1 = x1 ∧ y3 = x3 ∧ y4 = x4 ∧ τ = σ ∧ oW (f_80_98 (px_tb C) τ y0 y1 y2 y3 y4 y5) (Sum.elim (fun s : Int32 × Int32 => px_W C k 41 [some (.inr (.inr (some x0))), some (.inl x1), some (.inl s.1), some (.inl x3), some (.inl x4), some (.inl s.2)] [] σ) (Sum.elim (fun s : Int32 × Int32 => ∀ (z5 : Option px_V), px_W C k 24 [some (.inr (.inr (some x0))), some (.inl x1), some (.inl s.1), some (.inl x3), some (.inl s.2), z5] [] σ) (Sum.elim (fun s : Int32 × Int32 => ∀ (z4 : Option px_V) (z5 : Option px_V), px_W C k 9 [some (.inr (.inr (some x0))), some (.inl x1), some (.inl s.1), some (.inl s.2), z4, z5] [] σ) (fun q => k (some (.inl q.1)) q.2)))))), (121, kp_80_121 (fun y0 y1 y2 y3 y4 y5 τ => y0 = x0 ∧ y1 = x1 ∧ y3 = x3 ∧ y4 = x4 ∧ τ = σ ∧ oW (f_80_121 (px_tb C) τ y0 y1 y2 y3 y4 y5) (Sum.elim (fun s : Int32 × Int32 => px_W C k 41 [some (.inr (.inr (some x0))), some (.inl x1), some (.inl s.1), some (.inl x3), some (.inl x4), some (.inl s.2)] [] σ) (Sum.elim (fun s : Int32 × Int32 => ∀ (z5 : Option px_V), px_W C k 24 [some (.inr (.inr (some x0))), some (.inl x1), some (.inl s.1), some (.inl x3), some (.inl s.2), z5] [] σ) (Sum.elim (fun s : Int32 × Int32 => ∀ (z4 : Option px_V) (z5 : Option px_V), px_W C k 9 [some (.inr (.inr (some x0))), some (.inl x1), some (.inl s.1), some (.inl s.2), z4, z5] [] σ) (fun q => k (some (.inl q.1)) q.2))))))] 80 6 (some .int) rfl rfl hC (px_sp1 (mf_14 hn (by omega)) (px_sp1 (mf_31 hn (by omega)) px_nosp)) (by omega) (px_cut1 (kq_80_98 (fun y0 y1 y2 y3 y4 y5 τ hq => by obtain ⟨rfl, rfl, rfl, rfl, rfl, hq⟩ := hq; exact rl_80_98 hn (by omega) hC  hq)) (px_cut1 (kq_80_121 (fun y0 y1 y2 y3 y4 y5 τ hq => by obtain ⟨rfl, rfl, rfl, rfl, rfl, hq⟩ := hq; exact rl_80_121 hn (by omega) hC  hq)) px_nocut)) (fun G Jf hG hJf => ?_)
  unfold f_80_80 at hs
  obtain ⟨hc0, hs⟩ := oW_gx hs
  obtain ⟨r1, hc1, hs⟩ := oW_bx hs
  obtain ⟨r2, hc2, hs⟩ := oW_bx hs
  by_cases hc3 : r2 = nI 0
  · replace hs := bW_t hs hc3
    simp only [↓hG, ↓hJf, ↓px_vc, ↓px_ex, ↓px_jp, ↓px_gi, ↓px_gl, ↓px_gr, ↓px_s1, ↓px_s2, ↓px_nl, ↓px_i1, ↓px_l1, ↓r1_s, ↓px_q1, ↓px_i2, ↓px_l2, ↓px_il, ↓px_d0, ↓px_d1, ↓px_d2, ↓px_pop, ↓px_sp, ↓px_rd, ↓px_rf, ↓pn_xf, ↓px_pt, ↓px_sw, ↓pn_SW, ↓reduceIte, Nat.reduceEqDiff, Nat.reduceAdd, Nat.reduceSub, ↓Option.toList_some, ↓Option.toList_none, ↓List.cons_append, ↓List.nil_append, ↓kI_s, ↓kJ_s, ↓kN_s, ↓kO_s, ↓kZ_s, ↓kE_s, ↓an_rfl, ↓bt1 n00, ↓bt2 n00, ↓bf1 n10, ↓bf2 n10, ↓an_sz0, ↓an_sz1, ↓an_sz2, ↓an_sz3, ↓an_sz4, ↓an_ri, ↓an_rb0, ↓an_rb1, ↓an_b0, ↓an_b1, true_and, ↓ai_0s, ↓al_0s, ↓av_0s, ↓aq_0s, ↓ai_1s, ↓al_1s, ↓av_1s, ↓aq_1s, ↓ai_2s, ↓al_2s, ↓av_2s, ↓aq_2s, ↓ai_3s, ↓al_3s, ↓av_3s, ↓aq_3s, ↓ai_4s, ↓al_4s, ↓av_4s, ↓aq_4s, ↓ai_5s, ↓al_5s, ↓av_5s, ↓aq_5s, ↓ai_6s, ↓al_6s, ↓av_6s, ↓aq_6s, ↓ai_7s, ↓al_7s, ↓av_7s, ↓aq_7s, ↓an_l6, ↓bk_80, ↓Sg_14, ↓Sg_31, ↓kp_80_98, ↓kp_80_121, ↓an_t hc0, ↓an_rv hc0, ↓oW_e hc1, ↓oW_e hc2, ↓bt1 hc3, ↓bt2 hc3]
    exact hs
  · replace hs := bW_f hs hc3
    simp only [↓hG, ↓hJf, ↓px_vc, ↓px_ex, ↓px_jp, ↓px_gi, ↓px_gl, ↓px_gr, ↓px_s1, ↓px_s2, ↓px_nl, ↓px_i1, ↓px_l1, ↓r1_s, ↓px_q1, ↓px_i2, ↓px_l2, ↓px_il, ↓px_d0, ↓px_d1, ↓px_d2, ↓px_pop, ↓px_sp, ↓px_rd, ↓px_rf, ↓pn_xf, ↓px_pt, ↓px_sw, ↓pn_SW, ↓reduceIte, Nat.reduceEqDiff, Nat.reduceAdd, Nat.reduceSub, ↓Option.toList_some, ↓Option.toList_none, ↓List.cons_append, ↓List.nil_append, ↓kI_s, ↓kJ_s, ↓kN_s, ↓kO_s, ↓kZ_s, ↓kE_s, ↓an_rfl, ↓bt1 n00, ↓bt2 n00, ↓bf1 n10, ↓bf2 n10, ↓an_sz0, ↓an_sz1, ↓an_sz2, ↓an_sz3, ↓an_sz4, ↓an_ri, ↓an_rb0, ↓an_rb1, ↓an_b0, ↓an_b1, true_and, ↓ai_0s, ↓al_0s, ↓av_0s, ↓aq_0s, ↓ai_1s, ↓al_1s, ↓av_1s, ↓aq_1s, ↓ai_2s, ↓al_2s, ↓av_2s, ↓aq_2s, ↓ai_3s, ↓al_3s, ↓av_3s, ↓aq_3s, ↓ai_4s, ↓al_4s, ↓av_4s, ↓aq_4s, ↓ai_5s, ↓al_5s, ↓av_5s, ↓aq_5s, ↓ai_6s, ↓al_6s, ↓av_6s, ↓aq_6s, ↓ai_7s, ↓al_7s, ↓av_7s, ↓aq_7s, ↓an_l6, ↓bk_80, ↓Sg_14, ↓Sg_31, ↓kp_80_98, ↓kp_80_121, ↓an_t hc0, ↓an_rv hc0, ↓oW_e hc1, ↓oW_e hc2, ↓bf1 hc3, ↓bf2 hc3]
    exact hs
set_option maxHeartbeats 4000000 in
set_option maxRecDepth 100000 in
theorem rl_80_66 {C : px_C} (hn : px_nd (px_tb C)) {h : Nat} (hh : 2 ≤ h) (hC : px_ok C pn_i80 h) {k : Option px_V → px_M → Prop} {x0 : Nat} {x1 : Int32} {x2 : Int32} {x3 : Int32} {x4 : Int32} {x5 : Int32} {σ : px_M} (hs : oW (f_80_66 (px_tb C) σ x0 x1 x2 x3 x4 x5) (Sum.elim (fun s : Int32 × Int32 => px_W C k 41 [some (.inr (.inr (some x0))), some (.inl x1), some (.inl s.1), some (.inl x3), some (.inl x4), some (.inl s.2)] [] σ) (Sum.elim (fun s : Int32 × Int32 => ∀ (z5 : Option px_V), px_W C k 24 [some (.inr (.inr (some x0))), some (.inl x1), some (.inl s.1), some (.inl x3), some (.inl s.2), z5] [] σ) (Sum.elim (fun s : Int32 × Int32 => ∀ (z4 : Option px_V) (z5 : Option px_V), px_W C k 9 [some (.inr (.inr (some x0))), some (.inl x1), some (.inl s.1), some (.inl s.2), z4, z5] [] σ) (fun q => k (some (.inl q.1)) q.2))))) : px_W C k 66 [some (.inr (.inr (some x0))), some (.inl x1), some (.inl x2), some (.inl x3), some (.inl x4), some (.inl x5)] [] σ := by
  refine px_runH (h - 1) ck_80 [(14, Sg_14 (f_14 (px_tb C))), (31, Sg_31 (f_31 (px_tb C)))] [(80, kp_80_80 (fun y0 y1 y2 y3 y4 y5 τ => y0 = x0 ∧ y1 = x1 ∧ y3 = x3 ∧ y4 = x4 ∧ τ = σ ∧ oW (f_80_80 (px_tb C) τ y0 y1 y2 y3 y4 y5) (Sum.elim (fun s : Int32 × Int32 => px_W C k 41 [some (.inr (.inr (some x0))), some (.inl x1), some (.inl s.1), some (.inl x3), some (.inl x4), some (.inl s.2)] [] σ) (Sum.elim (fun s : Int32 × Int32 => ∀ (z5 : Option px_V), px_W C k 24 [some (.inr (.inr (some x0))), some (.inl x1), some (.inl s.1), some (.inl x3), some (.inl s.2), z5] [] σ) (Sum.elim (fun s : Int32 × Int32 => ∀ (z4 : Option px_V) (z5 : Option px_V), px_W C k 9 [some (.inr (.inr (some x0))), some (.inl x1), some (.inl s.1), some (.inl s.2), z4, z5] [] σ) (fun q => k (some (.inl q.1)) q.2)))))), (121, kp_80_121 (fun y0 y1 y2 y3 y4 y5 τ => y0 = x0 ∧ y1 = x1 ∧ y3 = x3 ∧ y4 = x4 ∧ τ = σ ∧ oW (f_80_121 (px_tb C) τ y0 y1 y2 y3 y4 y5) (Sum.elim (fun s : Int32 × Int32 => px_W C k 41 [some (.inr (.inr (some x0))), some (.inl x1), some (.inl s.1), some (.inl x3), some (.inl x4), some (.inl s.2)] [] σ) (Sum.elim (fun s : Int32 × Int32 => ∀ (z5 : Option px_V), px_W C k 24 [some (.inr (.inr (some x0))), some (.inl x1), some (.inl s.1), some (.inl x3), some (.inl s.2), z5] [] σ) (Sum.elim (fun s : Int32 × Int32 => ∀ (z4 : Option px_V) (z5 : Option px_V), px_W C k 9 [some (.inr (.inr (some x0))), some (.inl x1), some (.inl s.1), some (.inl s.2), z4, z5] [] σ) (fun q => k (some (.inl q.1)) q.2))))))] 80 6 (some .int) rfl rfl hC (px_sp1 (mf_14 hn (by omega)) (px_sp1 (mf_31 hn (by omega)) px_nosp)) (by omega) (px_cut1 (kq_80_80 (fun y0 y1 y2 y3 y4 y5 τ hq => by obtain ⟨rfl, rfl, rfl, rfl, rfl, hq⟩ := hq; exact rl_80_80 hn (by omega) hC  hq)) (px_cut1 (kq_80_121 (fun y0 y1 y2 y3 y4 y5 τ hq => by obtain ⟨rfl, rfl, rfl, rfl, rfl, hq⟩ := hq; exact rl_80_121 hn (by omega) hC  hq)) px_nocut)) (fun G Jf hG hJf => ?_)
  unfold f_80_66 at hs
  obtain ⟨hc0, hs⟩ := oW_gx hs
  obtain ⟨r1, hc1, hs⟩ := oW_bx hs
  obtain ⟨r2, hc2, hs⟩ := oW_bx hs
  by_cases hc3 : r2 = nI 0
  · replace hs := oW_t hs hc3
    simp only [↓hG, ↓hJf, ↓px_vc, ↓px_ex, ↓px_jp, ↓px_gi, ↓px_gl, ↓px_gr, ↓px_s1, ↓px_s2, ↓px_nl, ↓px_i1, ↓px_l1, ↓r1_s, ↓px_q1, ↓px_i2, ↓px_l2, ↓px_il, ↓px_d0, ↓px_d1, ↓px_d2, ↓px_pop, ↓px_sp, ↓px_rd, ↓px_rf, ↓pn_xf, ↓px_pt, ↓px_sw, ↓pn_SW, ↓reduceIte, Nat.reduceEqDiff, Nat.reduceAdd, Nat.reduceSub, ↓Option.toList_some, ↓Option.toList_none, ↓List.cons_append, ↓List.nil_append, ↓kI_s, ↓kJ_s, ↓kN_s, ↓kO_s, ↓kZ_s, ↓kE_s, ↓an_rfl, ↓bt1 n00, ↓bt2 n00, ↓bf1 n10, ↓bf2 n10, ↓an_sz0, ↓an_sz1, ↓an_sz2, ↓an_sz3, ↓an_sz4, ↓an_ri, ↓an_rb0, ↓an_rb1, ↓an_b0, ↓an_b1, true_and, ↓ai_0s, ↓al_0s, ↓av_0s, ↓aq_0s, ↓ai_1s, ↓al_1s, ↓av_1s, ↓aq_1s, ↓ai_2s, ↓al_2s, ↓av_2s, ↓aq_2s, ↓ai_3s, ↓al_3s, ↓av_3s, ↓aq_3s, ↓ai_4s, ↓al_4s, ↓av_4s, ↓aq_4s, ↓ai_5s, ↓al_5s, ↓av_5s, ↓aq_5s, ↓ai_6s, ↓al_6s, ↓av_6s, ↓aq_6s, ↓ai_7s, ↓al_7s, ↓av_7s, ↓aq_7s, ↓an_l6, ↓bk_80, ↓Sg_14, ↓Sg_31, ↓kp_80_80, ↓kp_80_121, ↓an_t hc0, ↓an_rv hc0, ↓oW_e hc1, ↓oW_e hc2, ↓bt1 hc3, ↓bt2 hc3]
    exact hs
  · replace hs := oW_f hs hc3
    simp only [↓hG, ↓hJf, ↓px_vc, ↓px_ex, ↓px_jp, ↓px_gi, ↓px_gl, ↓px_gr, ↓px_s1, ↓px_s2, ↓px_nl, ↓px_i1, ↓px_l1, ↓r1_s, ↓px_q1, ↓px_i2, ↓px_l2, ↓px_il, ↓px_d0, ↓px_d1, ↓px_d2, ↓px_pop, ↓px_sp, ↓px_rd, ↓px_rf, ↓pn_xf, ↓px_pt, ↓px_sw, ↓pn_SW, ↓reduceIte, Nat.reduceEqDiff, Nat.reduceAdd, Nat.reduceSub, ↓Option.toList_some, ↓Option.toList_none, ↓List.cons_append, ↓List.nil_append, ↓kI_s, ↓kJ_s, ↓kN_s, ↓kO_s, ↓kZ_s, ↓kE_s, ↓an_rfl, ↓bt1 n00, ↓bt2 n00, ↓bf1 n10, ↓bf2 n10, ↓an_sz0, ↓an_sz1, ↓an_sz2, ↓an_sz3, ↓an_sz4, ↓an_ri, ↓an_rb0, ↓an_rb1, ↓an_b0, ↓an_b1, true_and, ↓ai_0s, ↓al_0s, ↓av_0s, ↓aq_0s, ↓ai_1s, ↓al_1s, ↓av_1s, ↓aq_1s, ↓ai_2s, ↓al_2s, ↓av_2s, ↓aq_2s, ↓ai_3s, ↓al_3s, ↓av_3s, ↓aq_3s, ↓ai_4s, ↓al_4s, ↓av_4s, ↓aq_4s, ↓ai_5s, ↓al_5s, ↓av_5s, ↓aq_5s, ↓ai_6s, ↓al_6s, ↓av_6s, ↓aq_6s, ↓ai_7s, ↓al_7s, ↓av_7s, ↓aq_7s, ↓an_l6, ↓bk_80, ↓Sg_14, ↓Sg_31, ↓kp_80_80, ↓kp_80_121, ↓an_t hc0, ↓an_rv hc0, ↓oW_e hc1, ↓oW_e hc2, ↓bf1 hc3, ↓bf2 hc3]
    exact hs
set_option maxHeartbeats 4000000 in
set_option maxRecDepth 100000 in
theorem rl_80_41 {C : px_C} (hn : px_nd (px_tb C)) {h : Nat} (hh : 2 ≤ h) (hC : px_ok C pn_i80 h) {k : Option px_V → px_M → Prop} {x0 : Nat} {x1 : Int32} {x3 : Int32} {x4 : Int32} {σ : px_M} : ∀ s : Int32 × Int32, oW (f_80_41 (px_tb C) σ x0 x1 x3 x4 s.1 s.2) (Sum.elim (fun s : Int32 × Int32 => ∀ (z5 : Option px_V), px_W C k 24 [some (.inr (.inr (some x0))), some (.inl x1), some (.inl s.1), some (.inl x3), some (.inl s.2), z5] [] σ) (Sum.elim (fun s : Int32 × Int32 => ∀ (z4 : Option px_V) (z5 : Option px_V), px_W C k 9 [some (.inr (.inr (some x0))), some (.inl x1), some (.inl s.1), some (.inl s.2), z4, z5] [] σ) (fun q => k (some (.inl q.1)) q.2))) → (fun s : Int32 × Int32 => px_W C k 41 [some (.inr (.inr (some x0))), some (.inl x1), some (.inl s.1), some (.inl x3), some (.inl x4), some (.inl s.2)] [] σ) s := by
  intro s h0
  refine lpO_sound (P := (fun s : Int32 × Int32 => px_W C k 41 [some (.inr (.inr (some x0))), some (.inl x1), some (.inl s.1), some (.inl x3), some (.inl x4), some (.inl s.2)] [] σ)) (fun s hs => ?_) h0
  obtain ⟨x2, x5⟩ := s
  refine px_runH (h - 1) ck_80 [(14, Sg_14 (f_14 (px_tb C))), (31, Sg_31 (f_31 (px_tb C)))] [(24, kp_80_24 (fun y0 y1 y2 y3 y4 τ => y0 = x0 ∧ y1 = x1 ∧ y3 = x3 ∧ τ = σ ∧ (fun s : Int32 × Int32 => ∀ (z5 : Option px_V), px_W C k 24 [some (.inr (.inr (some x0))), some (.inl x1), some (.inl s.1), some (.inl x3), some (.inl s.2), z5] [] σ) (y2, y4))), (66, kp_80_66 (fun y0 y1 y2 y3 y4 y5 τ => y0 = x0 ∧ y1 = x1 ∧ y3 = x3 ∧ y4 = x4 ∧ τ = σ ∧ oW (f_80_66 (px_tb C) τ y0 y1 y2 y3 y4 y5) (Sum.elim (fun s : Int32 × Int32 => px_W C k 41 [some (.inr (.inr (some x0))), some (.inl x1), some (.inl s.1), some (.inl x3), some (.inl x4), some (.inl s.2)] [] σ) (Sum.elim (fun s : Int32 × Int32 => ∀ (z5 : Option px_V), px_W C k 24 [some (.inr (.inr (some x0))), some (.inl x1), some (.inl s.1), some (.inl x3), some (.inl s.2), z5] [] σ) (Sum.elim (fun s : Int32 × Int32 => ∀ (z4 : Option px_V) (z5 : Option px_V), px_W C k 9 [some (.inr (.inr (some x0))), some (.inl x1), some (.inl s.1), some (.inl s.2), z4, z5] [] σ) (fun q => k (some (.inl q.1)) q.2)))))), (121, kp_80_121 (fun y0 y1 y2 y3 y4 y5 τ => y0 = x0 ∧ y1 = x1 ∧ y3 = x3 ∧ y4 = x4 ∧ τ = σ ∧ oW (f_80_121 (px_tb C) τ y0 y1 y2 y3 y4 y5) (Sum.elim (fun s : Int32 × Int32 => px_W C k 41 [some (.inr (.inr (some x0))), some (.inl x1), some (.inl s.1), some (.inl x3), some (.inl x4), some (.inl s.2)] [] σ) (Sum.elim (fun s : Int32 × Int32 => ∀ (z5 : Option px_V), px_W C k 24 [some (.inr (.inr (some x0))), some (.inl x1), some (.inl s.1), some (.inl x3), some (.inl s.2), z5] [] σ) (Sum.elim (fun s : Int32 × Int32 => ∀ (z4 : Option px_V) (z5 : Option px_V), px_W C k 9 [some (.inr (.inr (some x0))), some (.inl x1), some (.inl s.1), some (.inl s.2), z4, z5] [] σ) (fun q => k (some (.inl q.1)) q.2))))))] 80 6 (some .int) rfl rfl hC (px_sp1 (mf_14 hn (by omega)) (px_sp1 (mf_31 hn (by omega)) px_nosp)) (by omega) (px_cut1 (kq_80_24 (fun y0 y1 y2 y3 y4 τ hq => by obtain ⟨rfl, rfl, rfl, rfl, hq⟩ := hq; exact hq)) (px_cut1 (kq_80_66 (fun y0 y1 y2 y3 y4 y5 τ hq => by obtain ⟨rfl, rfl, rfl, rfl, rfl, hq⟩ := hq; exact rl_80_66 hn (by omega) hC  hq)) (px_cut1 (kq_80_121 (fun y0 y1 y2 y3 y4 y5 τ hq => by obtain ⟨rfl, rfl, rfl, rfl, rfl, hq⟩ := hq; exact rl_80_121 hn (by omega) hC  hq)) px_nocut))) (fun G Jf hG hJf => ?_)
  replace hs : oW (F_80_41 (px_tb C) σ x0 x1 x3 x4 x2 x5) _ := hs
  unfold F_80_41 at hs
  obtain ⟨hc0, hs⟩ := oW_gx hs
  obtain ⟨n1, hc1, hs⟩ := oW_bx hs
  obtain ⟨t2, l3, hc2, hs⟩ := oW_ax hs
  obtain ⟨hc3, hs⟩ := oW_gx hs
  obtain ⟨hc4, hs⟩ := oW_gx hs
  by_cases hc5 : (px_av t2 σ n1 ((nI 1)).toNatClampNeg) ≤ x5
  · replace hs := oW_t hs hc5
    simp only [↓hG, ↓hJf, ↓px_vc, ↓px_ex, ↓px_jp, ↓px_gi, ↓px_gl, ↓px_gr, ↓px_s1, ↓px_s2, ↓px_nl, ↓px_i1, ↓px_l1, ↓r1_s, ↓px_q1, ↓px_i2, ↓px_l2, ↓px_il, ↓px_d0, ↓px_d1, ↓px_d2, ↓px_pop, ↓px_sp, ↓px_rd, ↓px_rf, ↓pn_xf, ↓px_pt, ↓px_sw, ↓pn_SW, ↓reduceIte, Nat.reduceEqDiff, Nat.reduceAdd, Nat.reduceSub, ↓Option.toList_some, ↓Option.toList_none, ↓List.cons_append, ↓List.nil_append, ↓kI_s, ↓kJ_s, ↓kN_s, ↓kO_s, ↓kZ_s, ↓kE_s, ↓an_rfl, ↓bt1 n00, ↓bt2 n00, ↓bf1 n10, ↓bf2 n10, ↓an_sz0, ↓an_sz1, ↓an_sz2, ↓an_sz3, ↓an_sz4, ↓an_ri, ↓an_rb0, ↓an_rb1, ↓an_b0, ↓an_b1, true_and, ↓ai_0s, ↓al_0s, ↓av_0s, ↓aq_0s, ↓ai_1s, ↓al_1s, ↓av_1s, ↓aq_1s, ↓ai_2s, ↓al_2s, ↓av_2s, ↓aq_2s, ↓ai_3s, ↓al_3s, ↓av_3s, ↓aq_3s, ↓ai_4s, ↓al_4s, ↓av_4s, ↓aq_4s, ↓ai_5s, ↓al_5s, ↓av_5s, ↓aq_5s, ↓ai_6s, ↓al_6s, ↓av_6s, ↓aq_6s, ↓ai_7s, ↓al_7s, ↓av_7s, ↓aq_7s, ↓an_l6, ↓bk_80, ↓Sg_14, ↓Sg_31, ↓kp_80_24, ↓kp_80_66, ↓kp_80_121, ↓an_t hc0, ↓an_rv hc0, ↓r1_e hc1, ↓av_0e hc1, ↓av_1e hc1, ↓av_2e hc1, ↓av_3e hc1, ↓ar_e hc2, ↓an_t hc3, ↓an_t hc4, ↓bt1 hc5, ↓bt2 hc5]
    rw [oW_some] at hs
    exact hs
  · replace hs := oW_f hs hc5
    obtain ⟨r4, hc6, hs⟩ := oW_bx hs
    obtain ⟨r5, hc7, hs⟩ := oW_bx hs
    by_cases hc8 : r5 = nI 0
    · replace hs := oW_t hs hc8
      simp only [↓hG, ↓hJf, ↓px_vc, ↓px_ex, ↓px_jp, ↓px_gi, ↓px_gl, ↓px_gr, ↓px_s1, ↓px_s2, ↓px_nl, ↓px_i1, ↓px_l1, ↓r1_s, ↓px_q1, ↓px_i2, ↓px_l2, ↓px_il, ↓px_d0, ↓px_d1, ↓px_d2, ↓px_pop, ↓px_sp, ↓px_rd, ↓px_rf, ↓pn_xf, ↓px_pt, ↓px_sw, ↓pn_SW, ↓reduceIte, Nat.reduceEqDiff, Nat.reduceAdd, Nat.reduceSub, ↓Option.toList_some, ↓Option.toList_none, ↓List.cons_append, ↓List.nil_append, ↓kI_s, ↓kJ_s, ↓kN_s, ↓kO_s, ↓kZ_s, ↓kE_s, ↓an_rfl, ↓bt1 n00, ↓bt2 n00, ↓bf1 n10, ↓bf2 n10, ↓an_sz0, ↓an_sz1, ↓an_sz2, ↓an_sz3, ↓an_sz4, ↓an_ri, ↓an_rb0, ↓an_rb1, ↓an_b0, ↓an_b1, true_and, ↓ai_0s, ↓al_0s, ↓av_0s, ↓aq_0s, ↓ai_1s, ↓al_1s, ↓av_1s, ↓aq_1s, ↓ai_2s, ↓al_2s, ↓av_2s, ↓aq_2s, ↓ai_3s, ↓al_3s, ↓av_3s, ↓aq_3s, ↓ai_4s, ↓al_4s, ↓av_4s, ↓aq_4s, ↓ai_5s, ↓al_5s, ↓av_5s, ↓aq_5s, ↓ai_6s, ↓al_6s, ↓av_6s, ↓aq_6s, ↓ai_7s, ↓al_7s, ↓av_7s, ↓aq_7s, ↓an_l6, ↓bk_80, ↓Sg_14, ↓Sg_31, ↓kp_80_24, ↓kp_80_66, ↓kp_80_121, ↓an_t hc0, ↓an_rv hc0, ↓r1_e hc1, ↓av_0e hc1, ↓av_1e hc1, ↓av_2e hc1, ↓av_3e hc1, ↓ar_e hc2, ↓an_t hc3, ↓an_t hc4, ↓bf1 hc5, ↓bf2 hc5, ↓oW_e hc6, ↓oW_e hc7, ↓bt1 hc8, ↓bt2 hc8]
      exact hs
    · replace hs := oW_f hs hc8
      simp only [↓hG, ↓hJf, ↓px_vc, ↓px_ex, ↓px_jp, ↓px_gi, ↓px_gl, ↓px_gr, ↓px_s1, ↓px_s2, ↓px_nl, ↓px_i1, ↓px_l1, ↓r1_s, ↓px_q1, ↓px_i2, ↓px_l2, ↓px_il, ↓px_d0, ↓px_d1, ↓px_d2, ↓px_pop, ↓px_sp, ↓px_rd, ↓px_rf, ↓pn_xf, ↓px_pt, ↓px_sw, ↓pn_SW, ↓reduceIte, Nat.reduceEqDiff, Nat.reduceAdd, Nat.reduceSub, ↓Option.toList_some, ↓Option.toList_none, ↓List.cons_append, ↓List.nil_append, ↓kI_s, ↓kJ_s, ↓kN_s, ↓kO_s, ↓kZ_s, ↓kE_s, ↓an_rfl, ↓bt1 n00, ↓bt2 n00, ↓bf1 n10, ↓bf2 n10, ↓an_sz0, ↓an_sz1, ↓an_sz2, ↓an_sz3, ↓an_sz4, ↓an_ri, ↓an_rb0, ↓an_rb1, ↓an_b0, ↓an_b1, true_and, ↓ai_0s, ↓al_0s, ↓av_0s, ↓aq_0s, ↓ai_1s, ↓al_1s, ↓av_1s, ↓aq_1s, ↓ai_2s, ↓al_2s, ↓av_2s, ↓aq_2s, ↓ai_3s, ↓al_3s, ↓av_3s, ↓aq_3s, ↓ai_4s, ↓al_4s, ↓av_4s, ↓aq_4s, ↓ai_5s, ↓al_5s, ↓av_5s, ↓aq_5s, ↓ai_6s, ↓al_6s, ↓av_6s, ↓aq_6s, ↓ai_7s, ↓al_7s, ↓av_7s, ↓aq_7s, ↓an_l6, ↓bk_80, ↓Sg_14, ↓Sg_31, ↓kp_80_24, ↓kp_80_66, ↓kp_80_121, ↓an_t hc0, ↓an_rv hc0, ↓r1_e hc1, ↓av_0e hc1, ↓av_1e hc1, ↓av_2e hc1, ↓av_3e hc1, ↓ar_e hc2, ↓an_t hc3, ↓an_t hc4, ↓bf1 hc5, ↓bf2 hc5, ↓oW_e hc6, ↓oW_e hc7, ↓bf1 hc8, ↓bf2 hc8]
      exact hs
set_option maxHeartbeats 4000000 in
set_option maxRecDepth 100000 in
theorem rl_80_24 {C : px_C} (hn : px_nd (px_tb C)) {h : Nat} (hh : 2 ≤ h) (hC : px_ok C pn_i80 h) {k : Option px_V → px_M → Prop} {x0 : Nat} {x1 : Int32} {x3 : Int32} {σ : px_M} : ∀ s : Int32 × Int32, oW (f_80_24 (px_tb C) σ x0 x1 x3 s.1 s.2) (Sum.elim (fun s : Int32 × Int32 => ∀ (z4 : Option px_V) (z5 : Option px_V), px_W C k 9 [some (.inr (.inr (some x0))), some (.inl x1), some (.inl s.1), some (.inl s.2), z4, z5] [] σ) (fun q => k (some (.inl q.1)) q.2)) → (fun s : Int32 × Int32 => ∀ (z5 : Option px_V), px_W C k 24 [some (.inr (.inr (some x0))), some (.inl x1), some (.inl s.1), some (.inl x3), some (.inl s.2), z5] [] σ) s := by
  intro s h0
  refine lpO_sound (P := (fun s : Int32 × Int32 => ∀ (z5 : Option px_V), px_W C k 24 [some (.inr (.inr (some x0))), some (.inl x1), some (.inl s.1), some (.inl x3), some (.inl s.2), z5] [] σ)) (fun s hs => ?_) h0
  obtain ⟨x2, x4⟩ := s
  intro z5
  refine px_runH (h - 1) ck_80 [] [(9, kp_80_9 (fun y0 y1 y2 y3 τ => y0 = x0 ∧ y1 = x1 ∧ τ = σ ∧ (fun s : Int32 × Int32 => ∀ (z4 : Option px_V) (z5 : Option px_V), px_W C k 9 [some (.inr (.inr (some x0))), some (.inl x1), some (.inl s.1), some (.inl s.2), z4, z5] [] σ) (y2, y3))), (41, kp_80_41 (fun y0 y1 y2 y3 y4 y5 τ => y0 = x0 ∧ y1 = x1 ∧ y3 = x3 ∧ τ = σ ∧ oW (f_80_41 (px_tb C) τ y0 y1 y3 y4 y2 y5) (Sum.elim (fun s : Int32 × Int32 => ∀ (z5 : Option px_V), px_W C k 24 [some (.inr (.inr (some x0))), some (.inl x1), some (.inl s.1), some (.inl x3), some (.inl s.2), z5] [] σ) (Sum.elim (fun s : Int32 × Int32 => ∀ (z4 : Option px_V) (z5 : Option px_V), px_W C k 9 [some (.inr (.inr (some x0))), some (.inl x1), some (.inl s.1), some (.inl s.2), z4, z5] [] σ) (fun q => k (some (.inl q.1)) q.2)))))] 80 6 (some .int) rfl rfl hC px_nosp (by omega) (px_cut1 (kq_80_9 (fun y0 y1 y2 y3 τ hq => by obtain ⟨rfl, rfl, rfl, hq⟩ := hq; exact hq)) (px_cut1 (kq_80_41 (fun y0 y1 y2 y3 y4 y5 τ hq => by obtain ⟨rfl, rfl, rfl, rfl, hq⟩ := hq; exact rl_80_41 hn (by omega) hC (y2, y5) hq)) px_nocut)) (fun G Jf hG hJf => ?_)
  replace hs : oW (F_80_24 (px_tb C) σ x0 x1 x3 x2 x4) _ := hs
  unfold F_80_24 at hs
  obtain ⟨hc0, hs⟩ := oW_gx hs
  obtain ⟨n1, hc1, hs⟩ := oW_bx hs
  obtain ⟨t2, l3, hc2, hs⟩ := oW_ax hs
  obtain ⟨hc3, hs⟩ := oW_gx hs
  obtain ⟨hc4, hs⟩ := oW_gx hs
  by_cases hc5 : (px_av t2 σ n1 ((nI 1)).toNatClampNeg) ≤ x4
  · replace hs := oW_t hs hc5
    simp only [↓hG, ↓hJf, ↓px_vc, ↓px_ex, ↓px_jp, ↓px_gi, ↓px_gl, ↓px_gr, ↓px_s1, ↓px_s2, ↓px_nl, ↓px_i1, ↓px_l1, ↓r1_s, ↓px_q1, ↓px_i2, ↓px_l2, ↓px_il, ↓px_d0, ↓px_d1, ↓px_d2, ↓px_pop, ↓px_sp, ↓px_rd, ↓px_rf, ↓pn_xf, ↓px_pt, ↓px_sw, ↓pn_SW, ↓reduceIte, Nat.reduceEqDiff, Nat.reduceAdd, Nat.reduceSub, ↓Option.toList_some, ↓Option.toList_none, ↓List.cons_append, ↓List.nil_append, ↓kI_s, ↓kJ_s, ↓kN_s, ↓kO_s, ↓kZ_s, ↓kE_s, ↓an_rfl, ↓bt1 n00, ↓bt2 n00, ↓bf1 n10, ↓bf2 n10, ↓an_sz0, ↓an_sz1, ↓an_sz2, ↓an_sz3, ↓an_sz4, ↓an_ri, ↓an_rb0, ↓an_rb1, ↓an_b0, ↓an_b1, true_and, ↓ai_0s, ↓al_0s, ↓av_0s, ↓aq_0s, ↓ai_1s, ↓al_1s, ↓av_1s, ↓aq_1s, ↓ai_2s, ↓al_2s, ↓av_2s, ↓aq_2s, ↓ai_3s, ↓al_3s, ↓av_3s, ↓aq_3s, ↓ai_4s, ↓al_4s, ↓av_4s, ↓aq_4s, ↓ai_5s, ↓al_5s, ↓av_5s, ↓aq_5s, ↓ai_6s, ↓al_6s, ↓av_6s, ↓aq_6s, ↓ai_7s, ↓al_7s, ↓av_7s, ↓aq_7s, ↓an_l6, ↓bk_80, ↓kp_80_9, ↓kp_80_41, ↓an_t hc0, ↓an_rv hc0, ↓r1_e hc1, ↓av_0e hc1, ↓av_1e hc1, ↓av_2e hc1, ↓av_3e hc1, ↓ar_e hc2, ↓an_t hc3, ↓an_t hc4, ↓bt1 hc5, ↓bt2 hc5]
    rw [oW_some] at hs
    exact hs
  · replace hs := oW_f hs hc5
    simp only [↓hG, ↓hJf, ↓px_vc, ↓px_ex, ↓px_jp, ↓px_gi, ↓px_gl, ↓px_gr, ↓px_s1, ↓px_s2, ↓px_nl, ↓px_i1, ↓px_l1, ↓r1_s, ↓px_q1, ↓px_i2, ↓px_l2, ↓px_il, ↓px_d0, ↓px_d1, ↓px_d2, ↓px_pop, ↓px_sp, ↓px_rd, ↓px_rf, ↓pn_xf, ↓px_pt, ↓px_sw, ↓pn_SW, ↓reduceIte, Nat.reduceEqDiff, Nat.reduceAdd, Nat.reduceSub, ↓Option.toList_some, ↓Option.toList_none, ↓List.cons_append, ↓List.nil_append, ↓kI_s, ↓kJ_s, ↓kN_s, ↓kO_s, ↓kZ_s, ↓kE_s, ↓an_rfl, ↓bt1 n00, ↓bt2 n00, ↓bf1 n10, ↓bf2 n10, ↓an_sz0, ↓an_sz1, ↓an_sz2, ↓an_sz3, ↓an_sz4, ↓an_ri, ↓an_rb0, ↓an_rb1, ↓an_b0, ↓an_b1, true_and, ↓ai_0s, ↓al_0s, ↓av_0s, ↓aq_0s, ↓ai_1s, ↓al_1s, ↓av_1s, ↓aq_1s, ↓ai_2s, ↓al_2s, ↓av_2s, ↓aq_2s, ↓ai_3s, ↓al_3s, ↓av_3s, ↓aq_3s, ↓ai_4s, ↓al_4s, ↓av_4s, ↓aq_4s, ↓ai_5s, ↓al_5s, ↓av_5s, ↓aq_5s, ↓ai_6s, ↓al_6s, ↓av_6s, ↓aq_6s, ↓ai_7s, ↓al_7s, ↓av_7s, ↓aq_7s, ↓an_l6, ↓bk_80, ↓kp_80_9, ↓kp_80_41, ↓an_t hc0, ↓an_rv hc0, ↓r1_e hc1, ↓av_0e hc1, ↓av_1e hc1, ↓av_2e hc1, ↓av_3e hc1, ↓ar_e hc2, ↓an_t hc3, ↓an_t hc4, ↓bf1 hc5, ↓bf2 hc5]
    exact hs
set_option maxHeartbeats 4000000 in
set_option maxRecDepth 100000 in
theorem rl_80_9 {C : px_C} (hn : px_nd (px_tb C)) {h : Nat} (hh : 2 ≤ h) (hC : px_ok C pn_i80 h) {k : Option px_V → px_M → Prop} {x0 : Nat} {x1 : Int32} {σ : px_M} : ∀ s : Int32 × Int32, oW (f_80_9 (px_tb C) σ x0 x1 s.1 s.2) (fun q => k (some (.inl q.1)) q.2) → (fun s : Int32 × Int32 => ∀ (z4 : Option px_V) (z5 : Option px_V), px_W C k 9 [some (.inr (.inr (some x0))), some (.inl x1), some (.inl s.1), some (.inl s.2), z4, z5] [] σ) s := by
  intro s h0
  refine lpO_sound (P := (fun s : Int32 × Int32 => ∀ (z4 : Option px_V) (z5 : Option px_V), px_W C k 9 [some (.inr (.inr (some x0))), some (.inl x1), some (.inl s.1), some (.inl s.2), z4, z5] [] σ)) (fun s hs => ?_) h0
  obtain ⟨x2, x3⟩ := s
  intro z4 z5
  refine px_runH (h - 1) ck_80 [] [(24, kp_80_24 (fun y0 y1 y2 y3 y4 τ => y0 = x0 ∧ y1 = x1 ∧ τ = σ ∧ oW (f_80_24 (px_tb C) τ y0 y1 y3 y2 y4) (Sum.elim (fun s : Int32 × Int32 => ∀ (z4 : Option px_V) (z5 : Option px_V), px_W C k 9 [some (.inr (.inr (some x0))), some (.inl x1), some (.inl s.1), some (.inl s.2), z4, z5] [] σ) (fun q => k (some (.inl q.1)) q.2))))] 80 6 (some .int) rfl rfl hC px_nosp (by omega) (px_cut1 (kq_80_24 (fun y0 y1 y2 y3 y4 τ hq => by obtain ⟨rfl, rfl, rfl, hq⟩ := hq; exact rl_80_24 hn (by omega) hC (y2, y4) hq)) px_nocut) (fun G Jf hG hJf => ?_)
  replace hs : oW (F_80_9 (px_tb C) σ x0 x1 x2 x3) _ := hs
  unfold F_80_9 at hs
  obtain ⟨hc0, hs⟩ := oW_gx hs
  obtain ⟨n1, hc1, hs⟩ := oW_bx hs
  obtain ⟨t2, l3, hc2, hs⟩ := oW_ax hs
  obtain ⟨hc3, hs⟩ := oW_gx hs
  obtain ⟨hc4, hs⟩ := oW_gx hs
  by_cases hc5 : (px_av t2 σ n1 ((nI 1)).toNatClampNeg) ≤ x3
  · replace hs := oW_t hs hc5
    by_cases hc6 : x1 = (-1)
    · replace hs := bW_t hs hc6
      simp only [↓hG, ↓hJf, ↓px_vc, ↓px_ex, ↓px_jp, ↓px_gi, ↓px_gl, ↓px_gr, ↓px_s1, ↓px_s2, ↓px_nl, ↓px_i1, ↓px_l1, ↓r1_s, ↓px_q1, ↓px_i2, ↓px_l2, ↓px_il, ↓px_d0, ↓px_d1, ↓px_d2, ↓px_pop, ↓px_sp, ↓px_rd, ↓px_rf, ↓pn_xf, ↓px_pt, ↓px_sw, ↓pn_SW, ↓reduceIte, Nat.reduceEqDiff, Nat.reduceAdd, Nat.reduceSub, ↓Option.toList_some, ↓Option.toList_none, ↓List.cons_append, ↓List.nil_append, ↓kI_s, ↓kJ_s, ↓kN_s, ↓kO_s, ↓kZ_s, ↓kE_s, ↓an_rfl, ↓bt1 n00, ↓bt2 n00, ↓bf1 n10, ↓bf2 n10, ↓an_sz0, ↓an_sz1, ↓an_sz2, ↓an_sz3, ↓an_sz4, ↓an_ri, ↓an_rb0, ↓an_rb1, ↓an_b0, ↓an_b1, true_and, ↓ai_0s, ↓al_0s, ↓av_0s, ↓aq_0s, ↓ai_1s, ↓al_1s, ↓av_1s, ↓aq_1s, ↓ai_2s, ↓al_2s, ↓av_2s, ↓aq_2s, ↓ai_3s, ↓al_3s, ↓av_3s, ↓aq_3s, ↓ai_4s, ↓al_4s, ↓av_4s, ↓aq_4s, ↓ai_5s, ↓al_5s, ↓av_5s, ↓aq_5s, ↓ai_6s, ↓al_6s, ↓av_6s, ↓aq_6s, ↓ai_7s, ↓al_7s, ↓av_7s, ↓aq_7s, ↓an_l6, ↓bk_80, ↓kp_80_24, ↓an_t hc0, ↓an_rv hc0, ↓r1_e hc1, ↓av_0e hc1, ↓av_1e hc1, ↓av_2e hc1, ↓av_3e hc1, ↓ar_e hc2, ↓an_t hc3, ↓an_t hc4, ↓bt1 hc5, ↓bt2 hc5, ↓bt1 hc6, ↓bt2 hc6]
      rw [oW_some] at hs
      exact hs
    · replace hs := bW_f hs hc6
      simp only [↓hG, ↓hJf, ↓px_vc, ↓px_ex, ↓px_jp, ↓px_gi, ↓px_gl, ↓px_gr, ↓px_s1, ↓px_s2, ↓px_nl, ↓px_i1, ↓px_l1, ↓r1_s, ↓px_q1, ↓px_i2, ↓px_l2, ↓px_il, ↓px_d0, ↓px_d1, ↓px_d2, ↓px_pop, ↓px_sp, ↓px_rd, ↓px_rf, ↓pn_xf, ↓px_pt, ↓px_sw, ↓pn_SW, ↓reduceIte, Nat.reduceEqDiff, Nat.reduceAdd, Nat.reduceSub, ↓Option.toList_some, ↓Option.toList_none, ↓List.cons_append, ↓List.nil_append, ↓kI_s, ↓kJ_s, ↓kN_s, ↓kO_s, ↓kZ_s, ↓kE_s, ↓an_rfl, ↓bt1 n00, ↓bt2 n00, ↓bf1 n10, ↓bf2 n10, ↓an_sz0, ↓an_sz1, ↓an_sz2, ↓an_sz3, ↓an_sz4, ↓an_ri, ↓an_rb0, ↓an_rb1, ↓an_b0, ↓an_b1, true_and, ↓ai_0s, ↓al_0s, ↓av_0s, ↓aq_0s, ↓ai_1s, ↓al_1s, ↓av_1s, ↓aq_1s, ↓ai_2s, ↓al_2s, ↓av_2s, ↓aq_2s, ↓ai_3s, ↓al_3s, ↓av_3s, ↓aq_3s, ↓ai_4s, ↓al_4s, ↓av_4s, ↓aq_4s, ↓ai_5s, ↓al_5s, ↓av_5s, ↓aq_5s, ↓ai_6s, ↓al_6s, ↓av_6s, ↓aq_6s, ↓ai_7s, ↓al_7s, ↓av_7s, ↓aq_7s, ↓an_l6, ↓bk_80, ↓kp_80_24, ↓an_t hc0, ↓an_rv hc0, ↓r1_e hc1, ↓av_0e hc1, ↓av_1e hc1, ↓av_2e hc1, ↓av_3e hc1, ↓ar_e hc2, ↓an_t hc3, ↓an_t hc4, ↓bt1 hc5, ↓bt2 hc5, ↓bf1 hc6, ↓bf2 hc6]
      rw [oW_some] at hs
      exact hs
  · replace hs := oW_f hs hc5
    simp only [↓hG, ↓hJf, ↓px_vc, ↓px_ex, ↓px_jp, ↓px_gi, ↓px_gl, ↓px_gr, ↓px_s1, ↓px_s2, ↓px_nl, ↓px_i1, ↓px_l1, ↓r1_s, ↓px_q1, ↓px_i2, ↓px_l2, ↓px_il, ↓px_d0, ↓px_d1, ↓px_d2, ↓px_pop, ↓px_sp, ↓px_rd, ↓px_rf, ↓pn_xf, ↓px_pt, ↓px_sw, ↓pn_SW, ↓reduceIte, Nat.reduceEqDiff, Nat.reduceAdd, Nat.reduceSub, ↓Option.toList_some, ↓Option.toList_none, ↓List.cons_append, ↓List.nil_append, ↓kI_s, ↓kJ_s, ↓kN_s, ↓kO_s, ↓kZ_s, ↓kE_s, ↓an_rfl, ↓bt1 n00, ↓bt2 n00, ↓bf1 n10, ↓bf2 n10, ↓an_sz0, ↓an_sz1, ↓an_sz2, ↓an_sz3, ↓an_sz4, ↓an_ri, ↓an_rb0, ↓an_rb1, ↓an_b0, ↓an_b1, true_and, ↓ai_0s, ↓al_0s, ↓av_0s, ↓aq_0s, ↓ai_1s, ↓al_1s, ↓av_1s, ↓aq_1s, ↓ai_2s, ↓al_2s, ↓av_2s, ↓aq_2s, ↓ai_3s, ↓al_3s, ↓av_3s, ↓aq_3s, ↓ai_4s, ↓al_4s, ↓av_4s, ↓aq_4s, ↓ai_5s, ↓al_5s, ↓av_5s, ↓aq_5s, ↓ai_6s, ↓al_6s, ↓av_6s, ↓aq_6s, ↓ai_7s, ↓al_7s, ↓av_7s, ↓aq_7s, ↓an_l6, ↓bk_80, ↓kp_80_24, ↓an_t hc0, ↓an_rv hc0, ↓r1_e hc1, ↓av_0e hc1, ↓av_1e hc1, ↓av_2e hc1, ↓av_3e hc1, ↓ar_e hc2, ↓an_t hc3, ↓an_t hc4, ↓bf1 hc5, ↓bf2 hc5]
    exact hs
set_option maxHeartbeats 4000000 in
set_option maxRecDepth 100000 in
theorem mf_80 {tab : px_T} (hn : px_nd tab) {h : Nat} (hh : 2 ≤ h) : px_Ok tab pn_i80 h (Sg_80 (f_80 tab)) := by
  refine px_mth hn (by decide +kernel) (fun av σ k hS => ?_) (fun C hT hC av σ k hS => ?_)
  · obtain ⟨x0, av0, e0, h0⟩ := av_0p hS
    obtain ⟨x1, av1, e1, h1⟩ := ai_1p h0
    obtain ⟨ez, hs⟩ := h1
    subst ez
    subst e1
    subst e0
    exact Nat.le_of_ble_eq_true rfl
  · obtain ⟨x0, av0, e0, h0⟩ := av_0p hS
    obtain ⟨x1, av1, e1, h1⟩ := ai_1p h0
    obtain ⟨ez, hs⟩ := h1
    subst ez
    subst e1
    subst e0
    subst hT
    show px_W C k 0 [some (.inr (.inr (some x0))), some (.inl x1), none, none, none, none] [] σ
    refine px_runH (h - 1) ck_80 [] [(9, kp_80_9 (fun y0 y1 y2 y3 τ => oW (f_80_9 (px_tb C) τ y0 y1 y2 y3) (fun q => k (some (.inl q.1)) q.2)))] 80 6 (some .int) rfl rfl hC px_nosp (by omega) (px_cut1 (kq_80_9 (fun y0 y1 y2 y3 τ hq => by exact rl_80_9 hn (by omega) hC (y2, y3) hq)) px_nocut) (fun G Jf hG hJf => ?_)
    unfold f_80 at hs
    obtain ⟨hc0, hs⟩ := oW_gx hs
    simp only [↓hG, ↓hJf, ↓px_vc, ↓px_ex, ↓px_jp, ↓px_gi, ↓px_gl, ↓px_gr, ↓px_s1, ↓px_s2, ↓px_nl, ↓px_i1, ↓px_l1, ↓r1_s, ↓px_q1, ↓px_i2, ↓px_l2, ↓px_il, ↓px_d0, ↓px_d1, ↓px_d2, ↓px_pop, ↓px_sp, ↓px_rd, ↓px_rf, ↓pn_xf, ↓px_pt, ↓px_sw, ↓pn_SW, ↓reduceIte, Nat.reduceEqDiff, Nat.reduceAdd, Nat.reduceSub, ↓Option.toList_some, ↓Option.toList_none, ↓List.cons_append, ↓List.nil_append, ↓kI_s, ↓kJ_s, ↓kN_s, ↓kO_s, ↓kZ_s, ↓kE_s, ↓an_rfl, ↓bt1 n00, ↓bt2 n00, ↓bf1 n10, ↓bf2 n10, ↓an_sz0, ↓an_sz1, ↓an_sz2, ↓an_sz3, ↓an_sz4, ↓an_ri, ↓an_rb0, ↓an_rb1, ↓an_b0, ↓an_b1, true_and, ↓ai_0s, ↓al_0s, ↓av_0s, ↓aq_0s, ↓ai_1s, ↓al_1s, ↓av_1s, ↓aq_1s, ↓ai_2s, ↓al_2s, ↓av_2s, ↓aq_2s, ↓ai_3s, ↓al_3s, ↓av_3s, ↓aq_3s, ↓ai_4s, ↓al_4s, ↓av_4s, ↓aq_4s, ↓ai_5s, ↓al_5s, ↓av_5s, ↓aq_5s, ↓ai_6s, ↓al_6s, ↓av_6s, ↓aq_6s, ↓ai_7s, ↓al_7s, ↓av_7s, ↓aq_7s, ↓an_l6, ↓bk_80, ↓kp_80_9, ↓an_t hc0, ↓an_rv hc0]
    exact hs
