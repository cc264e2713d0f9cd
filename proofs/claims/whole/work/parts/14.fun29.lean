/-! shallow functions, printed by wip/whole/decomp.py -/
def Sg_8004 (g : px_M → Nat → Int32 → Int32 → Int32 → Int32 → Option (Int32 × px_M)) : px_S := fun av σ k => av_0 av (fun x0 av => ai_1 av (fun x1 av => ai_2 av (fun x2 av => ai_3 av (fun x3 av => ai_4 av (fun x4 av => av = [] ∧ oW (g σ x0 x1 x2 x3 x4) (fun q => k (some (.inl q.1)) q.2))))))
/-- NoThree$Painter.paintAll(IIII)Z -/
noncomputable def f_8004_136 (tab : px_T) (g8004 : px_M → Nat → Int32 → Int32 → Int32 → Int32 → Option (Int32 × px_M)) (σ : px_M) (x0 : Nat) (x2 : Int32) (x3 : Int32) (x4 : Int32) (x5 : Int32) (x6 : Int32) (x7 : Int32) : Option ((Int32 × px_M) ⊕ (Int32 × px_M)) := some (.inl (((x7 + (nI 1)), σ)))
noncomputable def f_8004_129 (tab : px_T) (g8004 : px_M → Nat → Int32 → Int32 → Int32 → Int32 → Option (Int32 × px_M)) (σ : px_M) (x0 : Nat) (x2 : Int32) (x3 : Int32) (x4 : Int32) (x5 : Int32) (x6 : Int32) (x7 : Int32) (x8 : Int32) : Option ((Int32 × px_M) ⊕ (Int32 × px_M)) := if x8 = nI 0 then (f_8004_136 tab g8004 σ x0 x2 x3 x4 x5 x6 x7) else (some (.inr (((nI 1), σ))))
noncomputable def f_8004_92 (tab : px_T) (g8004 : px_M → Nat → Int32 → Int32 → Int32 → Int32 → Option (Int32 × px_M)) (σ : px_M) (x0 : Nat) (x2 : Int32) (x3 : Int32) (x4 : Int32) (x5 : Int32) (x6 : Int32) (x7 : Int32) : Option ((Int32 × px_M) ⊕ (Int32 × px_M)) := (f_20000 tab σ x2 ((x7 + (nI 1)))).bind fun r1 => gd (px_obj (px_lay tab x0) 8) ((g8004 σ x0 x6 r1 x3 ((x4 + (nI 1)))).bind fun q2 => (((q2.2).2.2 x0 0)).bind fun n3 => oA (px_lay tab n3) fun t4 l5 => gd (t4 = 0 ∨ t4 = 11) (gd (vp_in x7 l5) (gd (t4 = 0) (f_8004_129 tab g8004 ((px_wi q2.2 n3 (x7).toNatClampNeg ((px_av t4 q2.2 n3 (x7).toNatClampNeg) &&& (((nI 1) <<< (x5 &&& 31)) ^^^ (-1))))) x0 x2 x3 x4 x5 x6 x7 q2.1))))
noncomputable def F_8004_42 (tab : px_T) (g8004 : px_M → Nat → Int32 → Int32 → Int32 → Int32 → Option (Int32 × px_M)) (x0 : Nat) (x2 : Int32) (x3 : Int32) (x4 : Int32) (x5 : Int32) (x6 : Int32) (x7 : Int32) (σ : px_M) : Option ((Int32 × px_M) ⊕ (Int32 × px_M)) := if x2 < x7 then (some (.inr (((nI 0), σ)))) else (if x3 ≤ x7 then (some (.inr (((nI 0), σ)))) else (gd (px_obj (px_lay tab x0) 8) ((((σ).2.2 x0 0)).bind fun n1 => oA (px_lay tab n1) fun t2 l3 => gd (t2 = 0 ∨ t2 = 11) (gd (vp_in x7 l3) ((((σ).2.2 x0 2)).bind fun n4 => gd (px_obj (px_lay tab n4) 11) ((((σ).2.2 n4 1)).bind fun n5 => oA (px_lay tab n5) fun t6 l7 => gd (t6 = 0 ∨ t6 = 11) (gd (vp_in x5 l7) (if ((px_av t2 σ n1 (x7).toNatClampNeg) &&& (px_av t6 σ n5 (x5).toNatClampNeg)) = nI 0 then (gd (t2 = 0) (f_8004_92 tab g8004 ((px_wi σ n1 (x7).toNatClampNeg ((px_av t2 σ n1 (x7).toNatClampNeg) ||| ((nI 1) <<< (x5 &&& 31))))) x0 x2 x3 x4 x5 x6 x7)) else (f_8004_136 tab g8004 σ x0 x2 x3 x4 x5 x6 x7)))))))))
noncomputable def f_8004_42 (tab : px_T) (g8004 : px_M → Nat → Int32 → Int32 → Int32 → Int32 → Option (Int32 × px_M)) (x0 : Nat) (x2 : Int32) (x3 : Int32) (x4 : Int32) (x5 : Int32) (x6 : Int32) (x7 : Int32) (σ : px_M) : Option (Int32 × px_M) := lpO (fun s : Int32 × px_M => F_8004_42 tab g8004 x0 x2 x3 x4 x5 x6 s.1 s.2) (x7, σ)
theorem f_8004_42_eq (tab : px_T) (g8004 : px_M → Nat → Int32 → Int32 → Int32 → Int32 → Option (Int32 × px_M)) (x0 : Nat) (x2 : Int32) (x3 : Int32) (x4 : Int32) (x5 : Int32) (x6 : Int32) (x7 : Int32) (σ : px_M) : f_8004_42 tab g8004 x0 x2 x3 x4 x5 x6 x7 σ = (F_8004_42 tab g8004 x0 x2 x3 x4 x5 x6 x7 σ).bind (Sum.elim (fun s => f_8004_42 tab g8004 x0 x2 x3 x4 x5 x6 s.1 s.2) some) := lpO_eq _ _
noncomputable def f_8004_27 (tab : px_T) (g8004 : px_M → Nat → Int32 → Int32 → Int32 → Int32 → Option (Int32 × px_M)) (σ : px_M) : Option (Int32 × px_M) := some (((nI 0), σ))
noncomputable def F_8004 (tab : px_T) (g8004 : px_M → Nat → Int32 → Int32 → Int32 → Int32 → Option (Int32 × px_M)) (σ : px_M) (x0 : Nat) (x1 : Int32) (x2 : Int32) (x3 : Int32) (x4 : Int32) : Option (Int32 × px_M) := bn (x1 = nI 0) (gd (px_obj (px_lay tab x0) 8) ((f_8005 tab σ x0 x1 x2).bind fun r1 => if r1 = (-1) then (f_8004_27 tab g8004 σ) else (if x4 ≤ (nI 11) then (f_8004_42 tab g8004 x0 x2 x3 x4 r1 ((x1 &&& (((nI 1) <<< (r1 &&& 31)) ^^^ (-1)))) ((nI 0)) σ) else (f_8004_27 tab g8004 σ)))) (some (((nI 1), σ)))
def kp_8004_136 (Q : Nat → Int32 → Int32 → Int32 → Int32 → Int32 → Int32 → px_M → Prop) : px_P := fun ls st τ => st = [] ∧ kN ls (fun x0 ls => kZ ls (fun ls => kI ls (fun x2 ls => kI ls (fun x3 ls => kI ls (fun x4 ls => kI ls (fun x5 ls => kI ls (fun x6 ls => kI ls (fun x7 ls => kZ ls (fun ls => kE ls (Q x0 x2 x3 x4 x5 x6 x7 τ))))))))))
theorem kq_8004_136 {C : px_C} {k : Option px_V → px_M → Prop} {Q : Nat → Int32 → Int32 → Int32 → Int32 → Int32 → Int32 → px_M → Prop} (H : ∀ (x0 : Nat) (x2 : Int32) (x3 : Int32) (x4 : Int32) (x5 : Int32) (x6 : Int32) (x7 : Int32) (τ : px_M), Q x0 x2 x3 x4 x5 x6 x7 τ → ∀ (z1 : Option px_V) (z8 : Option px_V), px_W C k 136 [some (.inr (.inr (some x0))), z1, some (.inl x2), some (.inl x3), some (.inl x4), some (.inl x5), some (.inl x6), some (.inl x7), z8] [] τ) : ∀ ls st τ, kp_8004_136 Q ls st τ → px_W C k 136 ls st τ := by
  intro ls st τ hz
  obtain ⟨ez, h0⟩ := hz
  obtain ⟨x0, l0, e0, h1⟩ := kN_sp h0
  obtain ⟨z1, l1, e1, h2⟩ := kZ_sp h1
  obtain ⟨x2, l2, e2, h3⟩ := kI_sp h2
  obtain ⟨x3, l3, e3, h4⟩ := kI_sp h3
  obtain ⟨x4, l4, e4, h5⟩ := kI_sp h4
  obtain ⟨x5, l5, e5, h6⟩ := kI_sp h5
  obtain ⟨x6, l6, e6, h7⟩ := kI_sp h6
  obtain ⟨x7, l7, e7, h8⟩ := kI_sp h7
  obtain ⟨z8, l8, e8, h9⟩ := kZ_sp h8
  obtain ⟨ey, hy⟩ := kE_sp h9
  subst ez
  subst ey
  subst e8
  subst e7
  subst e6
  subst e5
  subst e4
  subst e3
  subst e2
  subst e1
  subst e0
  exact H x0 x2 x3 x4 x5 x6 x7 τ hy z1 z8
def kp_8004_129 (Q : Nat → Int32 → Int32 → Int32 → Int32 → Int32 → Int32 → Int32 → px_M → Prop) : px_P := fun ls st τ => st = [] ∧ kN ls (fun x0 ls => kZ ls (fun ls => kI ls (fun x2 ls => kI ls (fun x3 ls => kI ls (fun x4 ls => kI ls (fun x5 ls => kI ls (fun x6 ls => kI ls (fun x7 ls => kI ls (fun x8 ls => kE ls (Q x0 x2 x3 x4 x5 x6 x7 x8 τ))))))))))
theorem kq_8004_129 {C : px_C} {k : Option px_V → px_M → Prop} {Q : Nat → Int32 → Int32 → Int32 → Int32 → Int32 → Int32 → Int32 → px_M → Prop} (H : ∀ (x0 : Nat) (x2 : Int32) (x3 : Int32) (x4 : Int32) (x5 : Int32) (x6 : Int32) (x7 : Int32) (x8 : Int32) (τ : px_M), Q x0 x2 x3 x4 x5 x6 x7 x8 τ → ∀ (z1 : Option px_V), px_W C k 129 [some (.inr (.inr (some x0))), z1, some (.inl x2), some (.inl x3), some (.inl x4), some (.inl x5), some (.inl x6), some (.inl x7), some (.inl x8)] [] τ) : ∀ ls st τ, kp_8004_129 Q ls st τ → px_W C k 129 ls st τ := by
  intro ls st τ hz
  obtain ⟨ez, h0⟩ := hz
  obtain ⟨x0, l0, e0, h1⟩ := kN_sp h0
  obtain ⟨z1, l1, e1, h2⟩ := kZ_sp h1
  obtain ⟨x2, l2, e2, h3⟩ := kI_sp h2
  obtain ⟨x3, l3, e3, h4⟩ := kI_sp h3
  obtain ⟨x4, l4, e4, h5⟩ := kI_sp h4
  obtain ⟨x5, l5, e5, h6⟩ := kI_sp h5
  obtain ⟨x6, l6, e6, h7⟩ := kI_sp h6
  obtain ⟨x7, l7, e7, h8⟩ := kI_sp h7
  obtain ⟨x8, l8, e8, h9⟩ := kI_sp h8
  obtain ⟨ey, hy⟩ := kE_sp h9
  subst ez
  subst ey
  subst e8
  subst e7
  subst e6
  subst e5
  subst e4
  subst e3
  subst e2
  subst e1
  subst e0
  exact H x0 x2 x3 x4 x5 x6 x7 x8 τ hy z1
def kp_8004_92 (Q : Nat → Int32 → Int32 → Int32 → Int32 → Int32 → Int32 → px_M → Prop) : px_P := fun ls st τ => st = [] ∧ kN ls (fun x0 ls => kZ ls (fun ls => kI ls (fun x2 ls => kI ls (fun x3 ls => kI ls (fun x4 ls => kI ls (fun x5 ls => kI ls (fun x6 ls => kI ls (fun x7 ls => kZ ls (fun ls => kE ls (Q x0 x2 x3 x4 x5 x6 x7 τ))))))))))
theorem kq_8004_92 {C : px_C} {k : Option px_V → px_M → Prop} {Q : Nat → Int32 → Int32 → Int32 → Int32 → Int32 → Int32 → px_M → Prop} (H : ∀ (x0 : Nat) (x2 : Int32) (x3 : Int32) (x4 : Int32) (x5 : Int32) (x6 : Int32) (x7 : Int32) (τ : px_M), Q x0 x2 x3 x4 x5 x6 x7 τ → ∀ (z1 : Option px_V) (z8 : Option px_V), px_W C k 92 [some (.inr (.inr (some x0))), z1, some (.inl x2), some (.inl x3), some (.inl x4), some (.inl x5), some (.inl x6), some (.inl x7), z8] [] τ) : ∀ ls st τ, kp_8004_92 Q ls st τ → px_W C k 92 ls st τ := by
  intro ls st τ hz
  obtain ⟨ez, h0⟩ := hz
  obtain ⟨x0, l0, e0, h1⟩ := kN_sp h0
  obtain ⟨z1, l1, e1, h2⟩ := kZ_sp h1
  obtain ⟨x2, l2, e2, h3⟩ := kI_sp h2
  obtain ⟨x3, l3, e3, h4⟩ := kI_sp h3
  obtain ⟨x4, l4, e4, h5⟩ := kI_sp h4
  obtain ⟨x5, l5, e5, h6⟩ := kI_sp h5
  obtain ⟨x6, l6, e6, h7⟩ := kI_sp h6
  obtain ⟨x7, l7, e7, h8⟩ := kI_sp h7
  obtain ⟨z8, l8, e8, h9⟩ := kZ_sp h8
  obtain ⟨ey, hy⟩ := kE_sp h9
  subst ez
  subst ey
  subst e8
  subst e7
  subst e6
  subst e5
  subst e4
  subst e3
  subst e2
  subst e1
  subst e0
  exact H x0 x2 x3 x4 x5 x6 x7 τ hy z1 z8
def kp_8004_42 (Q : Nat → Int32 → Int32 → Int32 → Int32 → Int32 → Int32 → px_M → Prop) : px_P := fun ls st τ => st = [] ∧ kN ls (fun x0 ls => kZ ls (fun ls => kI ls (fun x2 ls => kI ls (fun x3 ls => kI ls (fun x4 ls => kI ls (fun x5 ls => kI ls (fun x6 ls => kI ls (fun x7 ls => kZ ls (fun ls => kE ls (Q x0 x2 x3 x4 x5 x6 x7 τ))))))))))
theorem kq_8004_42 {C : px_C} {k : Option px_V → px_M → Prop} {Q : Nat → Int32 → Int32 → Int32 → Int32 → Int32 → Int32 → px_M → Prop} (H : ∀ (x0 : Nat) (x2 : Int32) (x3 : Int32) (x4 : Int32) (x5 : Int32) (x6 : Int32) (x7 : Int32) (τ : px_M), Q x0 x2 x3 x4 x5 x6 x7 τ → ∀ (z1 : Option px_V) (z8 : Option px_V), px_W C k 42 [some (.inr (.inr (some x0))), z1, some (.inl x2), some (.inl x3), some (.inl x4), some (.inl x5), some (.inl x6), some (.inl x7), z8] [] τ) : ∀ ls st τ, kp_8004_42 Q ls st τ → px_W C k 42 ls st τ := by
  intro ls st τ hz
  obtain ⟨ez, h0⟩ := hz
  obtain ⟨x0, l0, e0, h1⟩ := kN_sp h0
  obtain ⟨z1, l1, e1, h2⟩ := kZ_sp h1
  obtain ⟨x2, l2, e2, h3⟩ := kI_sp h2
  obtain ⟨x3, l3, e3, h4⟩ := kI_sp h3
  obtain ⟨x4, l4, e4, h5⟩ := kI_sp h4
  obtain ⟨x5, l5, e5, h6⟩ := kI_sp h5
  obtain ⟨x6, l6, e6, h7⟩ := kI_sp h6
  obtain ⟨x7, l7, e7, h8⟩ := kI_sp h7
  obtain ⟨z8, l8, e8, h9⟩ := kZ_sp h8
  obtain ⟨ey, hy⟩ := kE_sp h9
  subst ez
  subst ey
  subst e8
  subst e7
  subst e6
  subst e5
  subst e4
  subst e3
  subst e2
  subst e1
  subst e0
  exact H x0 x2 x3 x4 x5 x6 x7 τ hy z1 z8
def kp_8004_27 (Q : px_M → Prop) : px_P := fun ls st τ => st = [] ∧ kZ ls (fun ls => kZ ls (fun ls => kZ ls (fun ls => kZ ls (fun ls => kZ ls (fun ls => kZ ls (fun ls => kZ ls (fun ls => kZ ls (fun ls => kZ ls (fun ls => kE ls (Q τ))))))))))
theorem kq_8004_27 {C : px_C} {k : Option px_V → px_M → Prop} {Q : px_M → Prop} (H : ∀ (τ : px_M), Q τ → ∀ (z0 : Option px_V) (z1 : Option px_V) (z2 : Option px_V) (z3 : Option px_V) (z4 : Option px_V) (z5 : Option px_V) (z6 : Option px_V) (z7 : Option px_V) (z8 : Option px_V), px_W C k 27 [z0, z1, z2, z3, z4, z5, z6, z7, z8] [] τ) : ∀ ls st τ, kp_8004_27 Q ls st τ → px_W C k 27 ls st τ := by
  intro ls st τ hz
  obtain ⟨ez, h0⟩ := hz
  obtain ⟨z0, l0, e0, h1⟩ := kZ_sp h0
  obtain ⟨z1, l1, e1, h2⟩ := kZ_sp h1
  obtain ⟨z2, l2, e2, h3⟩ := kZ_sp h2
  obtain ⟨z3, l3, e3, h4⟩ := kZ_sp h3
  obtain ⟨z4, l4, e4, h5⟩ := kZ_sp h4
  obtain ⟨z5, l5, e5, h6⟩ := kZ_sp h5
  obtain ⟨z6, l6, e6, h7⟩ := kZ_sp h6
  obtain ⟨z7, l7, e7, h8⟩ := kZ_sp h7
  obtain ⟨z8, l8, e8, h9⟩ := kZ_sp h8
  obtain ⟨ey, hy⟩ := kE_sp h9
  subst ez
  subst ey
  subst e8
  subst e7
  subst e6
  subst e5
  subst e4
  subst e3
  subst e2
  subst e1
  subst e0
  exact H τ hy z0 z1 z2 z3 z4 z5 z6 z7 z8
set_option maxHeartbeats 4000000 in
set_option maxRecDepth 100000 in
theorem rl_8004_136 {C : px_C} (hn : px_nd (px_tb C)) {h : Nat} (hh : 2 ≤ h) (hC : px_ok C pn_i8004 h) {g8004 : px_M → Nat → Int32 → Int32 → Int32 → Int32 → Option (Int32 × px_M)} (hg8004 : px_Ok (px_tb C) pn_i8004 (h - 1) (Sg_8004 g8004)) {k : Option px_V → px_M → Prop} {x0 : Nat} {x2 : Int32} {x3 : Int32} {x4 : Int32} {x5 : Int32} {x6 : Int32} {x7 : Int32} {σ : px_M} (hs : oW (f_8004_136 (px_tb C) g8004 σ x0 x2 x3 x4 x5 x6 x7) (Sum.elim (fun s : Int32 × px_M => ∀ (z1 : Option px_V) (z8 : Option px_V), px_W C k 42 [some (.inr (.inr (some x0))), z1, some (.inl x2), some (.inl x3), some (.inl x4), some (.inl x5), some (.inl x6), some (.inl s.1), z8] [] s.2) (fun q => k (some (.inl q.1)) q.2))) : ∀ (z1 : Option px_V) (z8 : Option px_V), px_W C k 136 [some (.inr (.inr (some x0))), z1, some (.inl x2), some (.inl x3), some (.inl x4), some (.inl x5), some (.inl x6), some (.inl x7), z8] [] σ := by
  intro z1 z8
  refine px_runH (h - 1) ck_8004 [] [(42, kp_8004_42 (fun y0 y2 y3 y4 y5 y6 y7 τ => y0 = x0 ∧ y2 = x2 ∧ y3 = x3 ∧ y4 = x4 ∧ y5 = x5 ∧ y6 = x6 ∧ (fun s : Int32 × px_M => ∀ (z1 : Option px_V) (z8 : Option px_V), px_W C k 42 [some (.inr (.inr (some x0))), z1, some (.inl x2), some (.inl x3), some (.inl x4), some (.inl x5), some (.inl x6), some (.inl s.1), z8] [] s.2) (y7, τ)))] 80 9 (some .boolean) rfl rfl hC px_nosp (by omega) (px_cut1 (kq_8004_42 (fun y0 y2 y3 y4 y5 y6 y7 τ hq => by obtain ⟨rfl, rfl, rfl, rfl, rfl, rfl, hq⟩ := hq; exact hq)) px_nocut) (fun G Jf hG hJf => ?_)
  unfold f_8004_136 at hs
  simp only [↓hG, ↓hJf, ↓px_vc, ↓px_ex, ↓px_jp, ↓px_gi, ↓px_gl, ↓px_gr, ↓px_s1, ↓px_s2, ↓px_nl, ↓px_i1, ↓px_l1, ↓r1_s, ↓px_q1, ↓px_i2, ↓px_l2, ↓px_il, ↓px_d0, ↓px_d1, ↓px_d2, ↓px_pop, ↓px_sp, ↓px_rd, ↓px_rf, ↓pn_xf, ↓px_pt, ↓px_sw, ↓pn_SW, ↓reduceIte, Nat.reduceEqDiff, Nat.reduceAdd, Nat.reduceSub, ↓Option.toList_some, ↓Option.toList_none, ↓List.cons_append, ↓List.nil_append, ↓kI_s, ↓kJ_s, ↓kN_s, ↓kO_s, ↓kZ_s, ↓kE_s, ↓an_rfl, ↓bt1 n00, ↓bt2 n00, ↓bf1 n10, ↓bf2 n10, ↓an_sz0, ↓an_sz1, ↓an_sz2, ↓an_sz3, ↓an_sz4, ↓an_ri, ↓an_rb0, ↓an_rb1, ↓an_b0, ↓an_b1, true_and, ↓ai_0s, ↓al_0s, ↓av_0s, ↓aq_0s, ↓ai_1s, ↓al_1s, ↓av_1s, ↓aq_1s, ↓ai_2s, ↓al_2s, ↓av_2s, ↓aq_2s, ↓ai_3s, ↓al_3s, ↓av_3s, ↓aq_3s, ↓ai_4s, ↓al_4s, ↓av_4s, ↓aq_4s, ↓ai_5s, ↓al_5s, ↓av_5s, ↓aq_5s, ↓ai_6s, ↓al_6s, ↓av_6s, ↓aq_6s, ↓ai_7s, ↓al_7s, ↓av_7s, ↓aq_7s, ↓an_l9, ↓bk_8004, ↓kp_8004_42]
  rw [oW_some] at hs
  exact hs
set_option maxHeartbeats 4000000 in
set_option maxRecDepth 100000 in
theorem rl_8004_129 {C : px_C} (hn : px_nd (px_tb C)) {h : Nat} (hh : 2 ≤ h) (hC : px_ok C pn_i8004 h) {g8004 : px_M → Nat → Int32 → Int32 → Int32 → Int32 → Option (Int32 × px_M)} (hg8004 : px_Ok (px_tb C) pn_i8004 (h - 1) (Sg_8004 g8004)) {k : Option px_V → px_M → Prop} {x0 : Nat} {x2 : Int32} {x3 : Int32} {x4 : Int32} {x5 : Int32} {x6 : Int32} {x7 : Int32} {x8 : Int32} {σ : px_M} (hs : oW (f_8004_129 (px_tb C) g8004 σ x0 x2 x3 x4 x5 x6 x7 x8) (Sum.elim (fun s : Int32 × px_M => ∀ (z1 : Option px_V) (z8 : Option px_V), px_W C k 42 [some (.inr (.inr (some x0))), z1, some (.inl x2), some (.inl x3), some (.inl x4), some (.inl x5), some (.inl x6), some (.inl s.1), z8] [] s.2) (fun q => k (some (.inl q.1)) q.2))) : ∀ (z1 : Option px_V), px_W C k 129 [some (.inr (.inr (some x0))), z1, some (.inl x2), some (.inl x3), some (.inl x4), some (.inl x5), some (.inl x6), some (.inl x7), some (.inl x8)] [] σ := by
  intro z1
  refine px_runH (h - 1) ck_8004 [] [(136, kp_8004_136 (fun y0 y2 y3 y4 y5 y6 y7 τ => y0 = x0 ∧ y2 = x2 ∧ y3 = x3 ∧ y4 = x4 ∧ y5 = x5 ∧ y6 = x6 ∧ oW (f_8004_136 (px_tb C) g8004 τ y0 y2 y3 y4 y5 y6 y7) (Sum.elim (fun s : Int32 × px_M => ∀ (z1 : Option px_V) (z8 : Option px_V), px_W C k 42 [some (.inr (.inr (some x0))), z1, some (.inl x2), some (.inl x3), some (.inl x4), some (.inl x5), some (.inl x6), some (.inl s.1), z8] [] s.2) (fun q => k (some (.inl q.1)) q.2))))] 80 9 (some .boolean) rfl rfl hC px_nosp (by omega) (px_cut1 (kq_8004_136 (fun y0 y2 y3 y4 y5 y6 y7 τ hq => by obtain ⟨rfl, rfl, rfl, rfl, rfl, rfl, hq⟩ := hq; exact rl_8004_136 hn (by omega) hC hg8004  hq)) px_nocut) (fun G Jf hG hJf => ?_)
  unfold f_8004_129 at hs
  by_cases hc0 : x8 = nI 0
  · replace hs := oW_t hs hc0
    simp only [↓hG, ↓hJf, ↓px_vc, ↓px_ex, ↓px_jp, ↓px_gi, ↓px_gl, ↓px_gr, ↓px_s1, ↓px_s2, ↓px_nl, ↓px_i1, ↓px_l1, ↓r1_s, ↓px_q1, ↓px_i2, ↓px_l2, ↓px_il, ↓px_d0, ↓px_d1, ↓px_d2, ↓px_pop, ↓px_sp, ↓px_rd, ↓px_rf, ↓pn_xf, ↓px_pt, ↓px_sw, ↓pn_SW, ↓reduceIte, Nat.reduceEqDiff, Nat.reduceAdd, Nat.reduceSub, ↓Option.toList_some, ↓Option.toList_none, ↓List.cons_append, ↓List.nil_append, ↓kI_s, ↓kJ_s, ↓kN_s, ↓kO_s, ↓kZ_s, ↓kE_s, ↓an_rfl, ↓bt1 n00, ↓bt2 n00, ↓bf1 n10, ↓bf2 n10, ↓an_sz0, ↓an_sz1, ↓an_sz2, ↓an_sz3, ↓an_sz4, ↓an_ri, ↓an_rb0, ↓an_rb1, ↓an_b0, ↓an_b1, true_and, ↓ai_0s, ↓al_0s, ↓av_0s, ↓aq_0s, ↓ai_1s, ↓al_1s, ↓av_1s, ↓aq_1s, ↓ai_2s, ↓al_2s, ↓av_2s, ↓aq_2s, ↓ai_3s, ↓al_3s, ↓av_3s, ↓aq_3s, ↓ai_4s, ↓al_4s, ↓av_4s, ↓aq_4s, ↓ai_5s, ↓al_5s, ↓av_5s, ↓aq_5s, ↓ai_6s, ↓al_6s, ↓av_6s, ↓aq_6s, ↓ai_7s, ↓al_7s, ↓av_7s, ↓aq_7s, ↓an_l9, ↓bk_8004, ↓kp_8004_136, ↓bt1 hc0, ↓bt2 hc0]
    exact hs
  · replace hs := oW_f hs hc0
    simp only [↓hG, ↓hJf, ↓px_vc, ↓px_ex, ↓px_jp, ↓px_gi, ↓px_gl, ↓px_gr, ↓px_s1, ↓px_s2, ↓px_nl, ↓px_i1, ↓px_l1, ↓r1_s, ↓px_q1, ↓px_i2, ↓px_l2, ↓px_il, ↓px_d0, ↓px_d1, ↓px_d2, ↓px_pop, ↓px_sp, ↓px_rd, ↓px_rf, ↓pn_xf, ↓px_pt, ↓px_sw, ↓pn_SW, ↓reduceIte, Nat.reduceEqDiff, Nat.reduceAdd, Nat.reduceSub, ↓Option.toList_some, ↓Option.toList_none, ↓List.cons_append, ↓List.nil_append, ↓kI_s, ↓kJ_s, ↓kN_s, ↓kO_s, ↓kZ_s, ↓kE_s, ↓an_rfl, ↓bt1 n00, ↓bt2 n00, ↓bf1 n10, ↓bf2 n10, ↓an_sz0, ↓an_sz1, ↓an_sz2, ↓an_sz3, ↓an_sz4, ↓an_ri, ↓an_rb0, ↓an_rb1, ↓an_b0, ↓an_b1, true_and, ↓ai_0s, ↓al_0s, ↓av_0s, ↓aq_0s, ↓ai_1s, ↓al_1s, ↓av_1s, ↓aq_1s, ↓ai_2s, ↓al_2s, ↓av_2s, ↓aq_2s, ↓ai_3s, ↓al_3s, ↓av_3s, ↓aq_3s, ↓ai_4s, ↓al_4s, ↓av_4s, ↓aq_4s, ↓ai_5s, ↓al_5s, ↓av_5s, ↓aq_5s, ↓ai_6s, ↓al_6s, ↓av_6s, ↓aq_6s, ↓ai_7s, ↓al_7s, ↓av_7s, ↓aq_7s, ↓an_l9, ↓bk_8004, ↓kp_8004_136, ↓bf1 hc0, ↓bf2 hc0]
    rw [oW_some] at hs
    exact hs
set_option maxHeartbeats 4000000 in
set_option maxRecDepth 100000 in
theorem rl_8004_92 {C : px_C} (hn : px_nd (px_tb C)) {h : Nat} (hh : 2 ≤ h) (hC : px_ok C pn_i8004 h) {g8004 : px_M → Nat → Int32 → Int32 → Int32 → Int32 → Option (Int32 × px_M)} (hg8004 : px_Ok (px_tb C) pn_i8004 (h - 1) (Sg_8004 g8004)) {k : Option px_V → px_M → Prop} {x0 : Nat} {x2 : Int32} {x3 : Int32} {x4 : Int32} {x5 : Int32} {x6 : Int32} {x7 : Int32} {σ : px_M} (hs : oW (f_8004_92 (px_tb C) g8004 σ x0 x2 x3 x4 x5 x6 x7) (Sum.elim (fun s : Int32 × px_M => ∀ (z1 : Option px_V) (z8 : Option px_V), px_W C k 42 [some (.inr (.inr (some x0))), z1, some (.inl x2), some (.inl x3), some (.inl x4), some (.inl x5), some (.inl x6), some (.inl s.1), z8] [] s.2) (fun q => k (some (.inl q.1)) q.2))) : ∀ (z1 : Option px_V) (z8 : Option px_V), px_W C k 92 [some (.inr (.inr (some x0))), z1, some (.inl x2), some (.inl x3), some (.inl x4), some (.inl x5), some (.inl x6), some (.inl x7), z8] [] σ := by
  intro z1 z8
  refine px_runH (h - 1) ck_8004 [(8004, Sg_8004 g8004), (20000, Sg_20000 (f_20000 (px_tb C)))] [(129, kp_8004_129 (fun y0 y2 y3 y4 y5 y6 y7 y8 τ => y0 = x0 ∧ y2 = x2 ∧ y3 = x3 ∧ y4 = x4 ∧ y5 = x5 ∧ y6 = x6 ∧ oW (f_8004_129 (px_tb C) g8004 τ y0 y2 y3 y4 y5 y6 y7 y8) (Sum.elim (fun s : Int32 × px_M => ∀ (z1 : Option px_V) (z8 : Option px_V), px_W C k 42 [some (.inr (.inr (some x0))), z1, some (.inl x2), some (.inl x3), some (.inl x4), some (.inl x5), some (.inl x6), some (.inl s.1), z8] [] s.2) (fun q => k (some (.inl q.1)) q.2))))] 80 9 (some .boolean) rfl rfl hC (px_sp1 (hg8004) (px_sp1 (mf_20000 hn (by omega)) px_nosp)) (by omega) (px_cut1 (kq_8004_129 (fun y0 y2 y3 y4 y5 y6 y7 y8 τ hq => by obtain ⟨rfl, rfl, rfl, rfl, rfl, rfl, hq⟩ := hq; exact rl_8004_129 hn (by omega) hC hg8004  hq)) px_nocut) (fun G Jf hG hJf => ?_)
  unfold f_8004_92 at hs
  obtain ⟨r1, hc0, hs⟩ := oW_bx hs
  obtain ⟨hc1, hs⟩ := oW_gx hs
  obtain ⟨q2, hc2, hs⟩ := oW_bx hs
  obtain ⟨n3, hc3, hs⟩ := oW_bx hs
  obtain ⟨t4, l5, hc4, hs⟩ := oW_ax hs
  obtain ⟨hc5, hs⟩ := oW_gx hs
  obtain ⟨hc6, hs⟩ := oW_gx hs
  obtain ⟨hc7, hs⟩ := oW_gx hs
  simp only [↓hG, ↓hJf, ↓px_vc, ↓px_ex, ↓px_jp, ↓px_gi, ↓px_gl, ↓px_gr, ↓px_s1, ↓px_s2, ↓px_nl, ↓px_i1, ↓px_l1, ↓r1_s, ↓px_q1, ↓px_i2, ↓px_l2, ↓px_il, ↓px_d0, ↓px_d1, ↓px_d2, ↓px_pop, ↓px_sp, ↓px_rd, ↓px_rf, ↓pn_xf, ↓px_pt, ↓px_sw, ↓pn_SW, ↓reduceIte, Nat.reduceEqDiff, Nat.reduceAdd, Nat.reduceSub, ↓Option.toList_some, ↓Option.toList_none, ↓List.cons_append, ↓List.nil_append, ↓kI_s, ↓kJ_s, ↓kN_s, ↓kO_s, ↓kZ_s, ↓kE_s, ↓an_rfl, ↓bt1 n00, ↓bt2 n00, ↓bf1 n10, ↓bf2 n10, ↓an_sz0, ↓an_sz1, ↓an_sz2, ↓an_sz3, ↓an_sz4, ↓an_ri, ↓an_rb0, ↓an_rb1, ↓an_b0, ↓an_b1, true_and, ↓ai_0s, ↓al_0s, ↓av_0s, ↓aq_0s, ↓ai_1s, ↓al_1s, ↓av_1s, ↓aq_1s, ↓ai_2s, ↓al_2s, ↓av_2s, ↓aq_2s, ↓ai_3s, ↓al_3s, ↓av_3s, ↓aq_3s, ↓ai_4s, ↓al_4s, ↓av_4s, ↓aq_4s, ↓ai_5s, ↓al_5s, ↓av_5s, ↓aq_5s, ↓ai_6s, ↓al_6s, ↓av_6s, ↓aq_6s, ↓ai_7s, ↓al_7s, ↓av_7s, ↓aq_7s, ↓an_l9, ↓bk_8004, ↓Sg_8004, ↓Sg_20000, ↓kp_8004_129, ↓oW_e hc0, ↓an_t hc1, ↓an_rv hc1, ↓oW_e hc2, ↓r1_e hc3, ↓av_0e hc3, ↓av_1e hc3, ↓av_2e hc3, ↓av_3e hc3, ↓ar_e hc4, ↓an_t hc5, ↓an_t hc6, ↓an_t hc7]
  exact hs
set_option maxHeartbeats 4000000 in
set_option maxRecDepth 100000 in
theorem rl_8004_42 {C : px_C} (hn : px_nd (px_tb C)) {h : Nat} (hh : 2 ≤ h) (hC : px_ok C pn_i8004 h) {g8004 : px_M → Nat → Int32 → Int32 → Int32 → Int32 → Option (Int32 × px_M)} (hg8004 : px_Ok (px_tb C) pn_i8004 (h - 1) (Sg_8004 g8004)) {k : Option px_V → px_M → Prop} {x0 : Nat} {x2 : Int32} {x3 : Int32} {x4 : Int32} {x5 : Int32} {x6 : Int32} : ∀ s : Int32 × px_M, oW (f_8004_42 (px_tb C) g8004 x0 x2 x3 x4 x5 x6 s.1 s.2) (fun q => k (some (.inl q.1)) q.2) → (fun s : Int32 × px_M => ∀ (z1 : Option px_V) (z8 : Option px_V), px_W C k 42 [some (.inr (.inr (some x0))), z1, some (.inl x2), some (.inl x3), some (.inl x4), some (.inl x5), some (.inl x6), some (.inl s.1), z8] [] s.2) s := by
  intro s h0
  refine lpO_sound (P := (fun s : Int32 × px_M => ∀ (z1 : Option px_V) (z8 : Option px_V), px_W C k 42 [some (.inr (.inr (some x0))), z1, some (.inl x2), some (.inl x3), some (.inl x4), some (.inl x5), some (.inl x6), some (.inl s.1), z8] [] s.2)) (fun s hs => ?_) h0
  obtain ⟨x7, σ⟩ := s
  intro z1 z8
  refine px_runH (h - 1) ck_8004 [] [(92, kp_8004_92 (fun y0 y2 y3 y4 y5 y6 y7 τ => y0 = x0 ∧ y2 = x2 ∧ y3 = x3 ∧ y4 = x4 ∧ y5 = x5 ∧ y6 = x6 ∧ oW (f_8004_92 (px_tb C) g8004 τ y0 y2 y3 y4 y5 y6 y7) (Sum.elim (fun s : Int32 × px_M => ∀ (z1 : Option px_V) (z8 : Option px_V), px_W C k 42 [some (.inr (.inr (some x0))), z1, some (.inl x2), some (.inl x3), some (.inl x4), some (.inl x5), some (.inl x6), some (.inl s.1), z8] [] s.2) (fun q => k (some (.inl q.1)) q.2)))), (136, kp_8004_136 (fun y0 y2 y3 y4 y5 y6 y7 τ => y0 = x0 ∧ y2 = x2 ∧ y3 = x3 ∧ y4 = x4 ∧ y5 = x5 ∧ y6 = x6 ∧ oW (f_8004_136 (px_tb C) g8004 τ y0 y2 y3 y4 y5 y6 y7) (Sum.elim (fun s : Int32 × px_M => ∀ (z1 : Option px_V) (z8 : Option px_V), px_W C k 42 [some (.inr (.inr (some x0))), z1, some (.inl x2), some (.inl x3), some (.inl x4), some (.inl x5), some (.inl x6), some (.inl s.1), z8] [] s.2) (fun q => k (some (.inl q.1)) q.2))))] 80 9 (some .boolean) rfl rfl hC px_nosp (by omega) (px_cut1 (kq_8004_92 (fun y0 y2 y3 y4 y5 y6 y7 τ hq => by obtain ⟨rfl, rfl, rfl, rfl, rfl, rfl, hq⟩ := hq; exact rl_8004_92 hn (by omega) hC hg8004  hq)) (px_cut1 (kq_8004_136 (fun y0 y2 y3 y4 y5 y6 y7 τ hq => by obtain ⟨rfl, rfl, rfl, rfl, rfl, rfl, hq⟩ := hq; exact rl_8004_136 hn (by omega) hC hg8004  hq)) px_nocut)) (fun G Jf hG hJf => ?_)
  replace hs : oW (F_8004_42 (px_tb C) g8004 x0 x2 x3 x4 x5 x6 x7 σ) _ := hs
  unfold F_8004_42 at hs
  by_cases hc0 : x2 < x7
  · replace hs := oW_t hs hc0
    simp only [↓hG, ↓hJf, ↓px_vc, ↓px_ex, ↓px_jp, ↓px_gi, ↓px_gl, ↓px_gr, ↓px_s1, ↓px_s2, ↓px_nl, ↓px_i1, ↓px_l1, ↓r1_s, ↓px_q1, ↓px_i2, ↓px_l2, ↓px_il, ↓px_d0, ↓px_d1, ↓px_d2, ↓px_pop, ↓px_sp, ↓px_rd, ↓px_rf, ↓pn_xf, ↓px_pt, ↓px_sw, ↓pn_SW, ↓reduceIte, Nat.reduceEqDiff, Nat.reduceAdd, Nat.reduceSub, ↓Option.toList_some, ↓Option.toList_none, ↓List.cons_append, ↓List.nil_append, ↓kI_s, ↓kJ_s, ↓kN_s, ↓kO_s, ↓kZ_s, ↓kE_s, ↓an_rfl, ↓bt1 n00, ↓bt2 n00, ↓bf1 n10, ↓bf2 n10, ↓an_sz0, ↓an_sz1, ↓an_sz2, ↓an_sz3, ↓an_sz4, ↓an_ri, ↓an_rb0, ↓an_rb1, ↓an_b0, ↓an_b1, true_and, ↓ai_0s, ↓al_0s, ↓av_0s, ↓aq_0s, ↓ai_1s, ↓al_1s, ↓av_1s, ↓aq_1s, ↓ai_2s, ↓al_2s, ↓av_2s, ↓aq_2s, ↓ai_3s, ↓al_3s, ↓av_3s, ↓aq_3s, ↓ai_4s, ↓al_4s, ↓av_4s, ↓aq_4s, ↓ai_5s, ↓al_5s, ↓av_5s, ↓aq_5s, ↓ai_6s, ↓al_6s, ↓av_6s, ↓aq_6s, ↓ai_7s, ↓al_7s, ↓av_7s, ↓aq_7s, ↓an_l9, ↓bk_8004, ↓kp_8004_92, ↓kp_8004_136, ↓bt1 hc0, ↓bt2 hc0]
    rw [oW_some] at hs
    exact hs
  · replace hs := oW_f hs hc0
    by_cases hc1 : x3 ≤ x7
    · replace hs := oW_t hs hc1
      simp only [↓hG, ↓hJf, ↓px_vc, ↓px_ex, ↓px_jp, ↓px_gi, ↓px_gl, ↓px_gr, ↓px_s1, ↓px_s2, ↓px_nl, ↓px_i1, ↓px_l1, ↓r1_s, ↓px_q1, ↓px_i2, ↓px_l2, ↓px_il, ↓px_d0, ↓px_d1, ↓px_d2, ↓px_pop, ↓px_sp, ↓px_rd, ↓px_rf, ↓pn_xf, ↓px_pt, ↓px_sw, ↓pn_SW, ↓reduceIte, Nat.reduceEqDiff, Nat.reduceAdd, Nat.reduceSub, ↓Option.toList_some, ↓Option.toList_none, ↓List.cons_append, ↓List.nil_append, ↓kI_s, ↓kJ_s, ↓kN_s, ↓kO_s, ↓kZ_s, ↓kE_s, ↓an_rfl, ↓bt1 n00, ↓bt2 n00, ↓bf1 n10, ↓bf2 n10, ↓an_sz0, ↓an_sz1, ↓an_sz2, ↓an_sz3, ↓an_sz4, ↓an_ri, ↓an_rb0, ↓an_rb1, ↓an_b0, ↓an_b1, true_and, ↓ai_0s, ↓al_0s, ↓av_0s, ↓aq_0s, ↓ai_1s, ↓al_1s, ↓av_1s, ↓aq_1s, ↓ai_2s, ↓al_2s, ↓av_2s, ↓aq_2s, ↓ai_3s, ↓al_3s, ↓av_3s, ↓aq_3s, ↓ai_4s, ↓al_4s, ↓av_4s, ↓aq_4s, ↓ai_5s, ↓al_5s, ↓av_5s, ↓aq_5s, ↓ai_6s, ↓al_6s, ↓av_6s, ↓aq_6s, ↓ai_7s, ↓al_7s, ↓av_7s, ↓aq_7s, ↓an_l9, ↓bk_8004, ↓kp_8004_92, ↓kp_8004_136, ↓bf1 hc0, ↓bf2 hc0, ↓bt1 hc1, ↓bt2 hc1]
      rw [oW_some] at hs
      exact hs
    · replace hs := oW_f hs hc1
      obtain ⟨hc2, hs⟩ := oW_gx hs
      obtain ⟨n1, hc3, hs⟩ := oW_bx hs
      obtain ⟨t2, l3, hc4, hs⟩ := oW_ax hs
      obtain ⟨hc5, hs⟩ := oW_gx hs
      obtain ⟨hc6, hs⟩ := oW_gx hs
      obtain ⟨n4, hc7, hs⟩ := oW_bx hs
      obtain ⟨hc8, hs⟩ := oW_gx hs
      obtain ⟨n5, hc9, hs⟩ := oW_bx hs
      obtain ⟨t6, l7, hc10, hs⟩ := oW_ax hs
      obtain ⟨hc11, hs⟩ := oW_gx hs
      obtain ⟨hc12, hs⟩ := oW_gx hs
      by_cases hc13 : ((px_av t2 σ n1 (x7).toNatClampNeg) &&& (px_av t6 σ n5 (x5).toNatClampNeg)) = nI 0
      · replace hs := oW_t hs hc13
        obtain ⟨hc14, hs⟩ := oW_gx hs
        simp only [↓hG, ↓hJf, ↓px_vc, ↓px_ex, ↓px_jp, ↓px_gi, ↓px_gl, ↓px_gr, ↓px_s1, ↓px_s2, ↓px_nl, ↓px_i1, ↓px_l1, ↓r1_s, ↓px_q1, ↓px_i2, ↓px_l2, ↓px_il, ↓px_d0, ↓px_d1, ↓px_d2, ↓px_pop, ↓px_sp, ↓px_rd, ↓px_rf, ↓pn_xf, ↓px_pt, ↓px_sw, ↓pn_SW, ↓reduceIte, Nat.reduceEqDiff, Nat.reduceAdd, Nat.reduceSub, ↓Option.toList_some, ↓Option.toList_none, ↓List.cons_append, ↓List.nil_append, ↓kI_s, ↓kJ_s, ↓kN_s, ↓kO_s, ↓kZ_s, ↓kE_s, ↓an_rfl, ↓bt1 n00, ↓bt2 n00, ↓bf1 n10, ↓bf2 n10, ↓an_sz0, ↓an_sz1, ↓an_sz2, ↓an_sz3, ↓an_sz4, ↓an_ri, ↓an_rb0, ↓an_rb1, ↓an_b0, ↓an_b1, true_and, ↓ai_0s, ↓al_0s, ↓av_0s, ↓aq_0s, ↓ai_1s, ↓al_1s, ↓av_1s, ↓aq_1s, ↓ai_2s, ↓al_2s, ↓av_2s, ↓aq_2s, ↓ai_3s, ↓al_3s, ↓av_3s, ↓aq_3s, ↓ai_4s, ↓al_4s, ↓av_4s, ↓aq_4s, ↓ai_5s, ↓al_5s, ↓av_5s, ↓aq_5s, ↓ai_6s, ↓al_6s, ↓av_6s, ↓aq_6s, ↓ai_7s, ↓al_7s, ↓av_7s, ↓aq_7s, ↓an_l9, ↓bk_8004, ↓kp_8004_92, ↓kp_8004_136, ↓bf1 hc0, ↓bf2 hc0, ↓bf1 hc1, ↓bf2 hc1, ↓an_t hc2, ↓an_rv hc2, ↓r1_e hc3, ↓av_0e hc3, ↓av_1e hc3, ↓av_2e hc3, ↓av_3e hc3, ↓ar_e hc4, ↓an_t hc5, ↓an_t hc6, ↓r1_e hc7, ↓av_0e hc7, ↓av_1e hc7, ↓av_2e hc7, ↓av_3e hc7, ↓an_t hc8, ↓an_rv hc8, ↓an_rvo hc7 hc8, ↓r1_e hc9, ↓av_0e hc9, ↓av_1e hc9, ↓av_2e hc9, ↓av_3e hc9, ↓ar_e hc10, ↓an_t hc11, ↓an_t hc12, ↓bt1 hc13, ↓bt2 hc13, ↓an_t hc14]
        exact hs
      · replace hs := oW_f hs hc13
        simp only [↓hG, ↓hJf, ↓px_vc, ↓px_ex, ↓px_jp, ↓px_gi, ↓px_gl, ↓px_gr, ↓px_s1, ↓px_s2, ↓px_nl, ↓px_i1, ↓px_l1, ↓r1_s, ↓px_q1, ↓px_i2, ↓px_l2, ↓px_il, ↓px_d0, ↓px_d1, ↓px_d2, ↓px_pop, ↓px_sp, ↓px_rd, ↓px_rf, ↓pn_xf, ↓px_pt, ↓px_sw, ↓pn_SW, ↓reduceIte, Nat.reduceEqDiff, Nat.reduceAdd, Nat.reduceSub, ↓Option.toList_some, ↓Option.toList_none, ↓List.cons_append, ↓List.nil_append, ↓kI_s, ↓kJ_s, ↓kN_s, ↓kO_s, ↓kZ_s, ↓kE_s, ↓an_rfl, ↓bt1 n00, ↓bt2 n00, ↓bf1 n10, ↓bf2 n10, ↓an_sz0, ↓an_sz1, ↓an_sz2, ↓an_sz3, ↓an_sz4, ↓an_ri, ↓an_rb0, ↓an_rb1, ↓an_b0, ↓an_b1, true_and, ↓ai_0s, ↓al_0s, ↓av_0s, ↓aq_0s, ↓ai_1s, ↓al_1s, ↓av_1s, ↓aq_1s, ↓ai_2s, ↓al_2s, ↓av_2s, ↓aq_2s, ↓ai_3s, ↓al_3s, ↓av_3s, ↓aq_3s, ↓ai_4s, ↓al_4s, ↓av_4s, ↓aq_4s, ↓ai_5s, ↓al_5s, ↓av_5s, ↓aq_5s, ↓ai_6s, ↓al_6s, ↓av_6s, ↓aq_6s, ↓ai_7s, ↓al_7s, ↓av_7s, ↓aq_7s, ↓an_l9, ↓bk_8004, ↓kp_8004_92, ↓kp_8004_136, ↓bf1 hc0, ↓bf2 hc0, ↓bf1 hc1, ↓bf2 hc1, ↓an_t hc2, ↓an_rv hc2, ↓r1_e hc3, ↓av_0e hc3, ↓av_1e hc3, ↓av_2e hc3, ↓av_3e hc3, ↓ar_e hc4, ↓an_t hc5, ↓an_t hc6, ↓r1_e hc7, ↓av_0e hc7, ↓av_1e hc7, ↓av_2e hc7, ↓av_3e hc7, ↓an_t hc8, ↓an_rv hc8, ↓an_rvo hc7 hc8, ↓r1_e hc9, ↓av_0e hc9, ↓av_1e hc9, ↓av_2e hc9, ↓av_3e hc9, ↓ar_e hc10, ↓an_t hc11, ↓an_t hc12, ↓bf1 hc13, ↓bf2 hc13]
        exact hs
set_option maxHeartbeats 4000000 in
set_option maxRecDepth 100000 in
theorem rl_8004_27 {C : px_C} (hn : px_nd (px_tb C)) {h : Nat} (hh : 2 ≤ h) (hC : px_ok C pn_i8004 h) {g8004 : px_M → Nat → Int32 → Int32 → Int32 → Int32 → Option (Int32 × px_M)} (hg8004 : px_Ok (px_tb C) pn_i8004 (h - 1) (Sg_8004 g8004)) {k : Option px_V → px_M → Prop} {σ : px_M} (hs : oW (f_8004_27 (px_tb C) g8004 σ) (fun q => k (some (.inl q.1)) q.2)) : ∀ (z0 : Option px_V) (z1 : Option px_V) (z2 : Option px_V) (z3 : Option px_V) (z4 : Option px_V) (z5 : Option px_V) (z6 : Option px_V) (z7 : Option px_V) (z8 : Option px_V), px_W C k 27 [z0, z1, z2, z3, z4, z5, z6, z7, z8] [] σ := by
  intro z0 z1 z2 z3 z4 z5 z6 z7 z8
  refine px_runH (h - 1) ck_8004 [] [] 80 9 (some .boolean) rfl rfl hC px_nosp (by omega) px_nocut (fun G Jf hG hJf => ?_)
  unfold f_8004_27 at hs
  simp only [↓hG, ↓hJf, ↓px_vc, ↓px_ex, ↓px_jp, ↓px_gi, ↓px_gl, ↓px_gr, ↓px_s1, ↓px_s2, ↓px_nl, ↓px_i1, ↓px_l1, ↓r1_s, ↓px_q1, ↓px_i2, ↓px_l2, ↓px_il, ↓px_d0, ↓px_d1, ↓px_d2, ↓px_pop, ↓px_sp, ↓px_rd, ↓px_rf, ↓pn_xf, ↓px_pt, ↓px_sw, ↓pn_SW, ↓reduceIte, Nat.reduceEqDiff, Nat.reduceAdd, Nat.reduceSub, ↓Option.toList_some, ↓Option.toList_none, ↓List.cons_append, ↓List.nil_append, ↓kI_s, ↓kJ_s, ↓kN_s, ↓kO_s, ↓kZ_s, ↓kE_s, ↓an_rfl, ↓bt1 n00, ↓bt2 n00, ↓bf1 n10, ↓bf2 n10, ↓an_sz0, ↓an_sz1, ↓an_sz2, ↓an_sz3, ↓an_sz4, ↓an_ri, ↓an_rb0, ↓an_rb1, ↓an_b0, ↓an_b1, true_and, ↓ai_0s, ↓al_0s, ↓av_0s, ↓aq_0s, ↓ai_1s, ↓al_1s, ↓av_1s, ↓aq_1s, ↓ai_2s, ↓al_2s, ↓av_2s, ↓aq_2s, ↓ai_3s, ↓al_3s, ↓av_3s, ↓aq_3s, ↓ai_4s, ↓al_4s, ↓av_4s, ↓aq_4s, ↓ai_5s, ↓al_5s, ↓av_5s, ↓aq_5s, ↓ai_6s, ↓al_6s, ↓av_6s, ↓aq_6s, ↓ai_7s, ↓al_7s, ↓av_7s, ↓aq_7s, ↓an_l9, ↓bk_8004]
  rw [oW_some] at hs
  exact hs
set_option maxHeartbeats 4000000 in
set_option maxRecDepth 100000 in
theorem mF_8004 {tab : px_T} (hn : px_nd tab) {h : Nat} (hh : 2 ≤ h) {g8004 : px_M → Nat → Int32 → Int32 → Int32 → Int32 → Option (Int32 × px_M)} (hg8004 : px_Ok tab pn_i8004 (h - 1) (Sg_8004 g8004)) : px_Ok tab pn_i8004 h (Sg_8004 (F_8004 tab g8004)) := by
  refine px_mth hn (by decide +kernel) (fun av σ k hS => ?_) (fun C hT hC av σ k hS => ?_)
  · obtain ⟨x0, av0, e0, h0⟩ := av_0p hS
    obtain ⟨x1, av1, e1, h1⟩ := ai_1p h0
    obtain ⟨x2, av2, e2, h2⟩ := ai_2p h1
    obtain ⟨x3, av3, e3, h3⟩ := ai_3p h2
    obtain ⟨x4, av4, e4, h4⟩ := ai_4p h3
    obtain ⟨ez, hs⟩ := h4
    subst ez
    subst e4
    subst e3
    subst e2
    subst e1
    subst e0
    exact Nat.le_of_ble_eq_true rfl
  · obtain ⟨x0, av0, e0, h0⟩ := av_0p hS
    obtain ⟨x1, av1, e1, h1⟩ := ai_1p h0
    obtain ⟨x2, av2, e2, h2⟩ := ai_2p h1
    obtain ⟨x3, av3, e3, h3⟩ := ai_3p h2
    obtain ⟨x4, av4, e4, h4⟩ := ai_4p h3
    obtain ⟨ez, hs⟩ := h4
    subst ez
    subst e4
    subst e3
    subst e2
    subst e1
    subst e0
    subst hT
    show px_W C k 0 [some (.inr (.inr (some x0))), some (.inl x1), some (.inl x2), some (.inl x3), some (.inl x4), none, none, none, none] [] σ
    refine px_runH (h - 1) ck_8004 [(8005, Sg_8005 (f_8005 (px_tb C)))] [(27, kp_8004_27 (fun τ => oW (f_8004_27 (px_tb C) g8004 τ) (fun q => k (some (.inl q.1)) q.2))), (42, kp_8004_42 (fun y0 y2 y3 y4 y5 y6 y7 τ => oW (f_8004_42 (px_tb C) g8004 y0 y2 y3 y4 y5 y6 y7 τ) (fun q => k (some (.inl q.1)) q.2)))] 80 9 (some .boolean) rfl rfl hC (px_sp1 (mf_8005 hn (by omega)) px_nosp) (by omega) (px_cut1 (kq_8004_27 (fun τ hq => by exact rl_8004_27 hn (by omega) hC hg8004  hq)) (px_cut1 (kq_8004_42 (fun y0 y2 y3 y4 y5 y6 y7 τ hq => by exact rl_8004_42 hn (by omega) hC hg8004 (y7, τ) hq)) px_nocut)) (fun G Jf hG hJf => ?_)
    unfold F_8004 at hs
    by_cases hc0 : x1 = nI 0
    · replace hs := bW_t hs hc0
      simp only [↓hG, ↓hJf, ↓px_vc, ↓px_ex, ↓px_jp, ↓px_gi, ↓px_gl, ↓px_gr, ↓px_s1, ↓px_s2, ↓px_nl, ↓px_i1, ↓px_l1, ↓r1_s, ↓px_q1, ↓px_i2, ↓px_l2, ↓px_il, ↓px_d0, ↓px_d1, ↓px_d2, ↓px_pop, ↓px_sp, ↓px_rd, ↓px_rf, ↓pn_xf, ↓px_pt, ↓px_sw, ↓pn_SW, ↓reduceIte, Nat.reduceEqDiff, Nat.reduceAdd, Nat.reduceSub, ↓Option.toList_some, ↓Option.toList_none, ↓List.cons_append, ↓List.nil_append, ↓kI_s, ↓kJ_s, ↓kN_s, ↓kO_s, ↓kZ_s, ↓kE_s, ↓an_rfl, ↓bt1 n00, ↓bt2 n00, ↓bf1 n10, ↓bf2 n10, ↓an_sz0, ↓an_sz1, ↓an_sz2, ↓an_sz3, ↓an_sz4, ↓an_ri, ↓an_rb0, ↓an_rb1, ↓an_b0, ↓an_b1, true_and, ↓ai_0s, ↓al_0s, ↓av_0s, ↓aq_0s, ↓ai_1s, ↓al_1s, ↓av_1s, ↓aq_1s, ↓ai_2s, ↓al_2s, ↓av_2s, ↓aq_2s, ↓ai_3s, ↓al_3s, ↓av_3s, ↓aq_3s, ↓ai_4s, ↓al_4s, ↓av_4s, ↓aq_4s, ↓ai_5s, ↓al_5s, ↓av_5s, ↓aq_5s, ↓ai_6s, ↓al_6s, ↓av_6s, ↓aq_6s, ↓ai_7s, ↓al_7s, ↓av_7s, ↓aq_7s, ↓an_l9, ↓bk_8004, ↓Sg_8005, ↓kp_8004_27, ↓kp_8004_42, ↓bt1 hc0, ↓bt2 hc0]
      rw [oW_some] at hs
      exact hs
    · replace hs := bW_f hs hc0
      obtain ⟨hc1, hs⟩ := oW_gx hs
      obtain ⟨r1, hc2, hs⟩ := oW_bx hs
      by_cases hc3 : r1 = (-1)
      · replace hs := oW_t hs hc3
        simp only [↓hG, ↓hJf, ↓px_vc, ↓px_ex, ↓px_jp, ↓px_gi, ↓px_gl, ↓px_gr, ↓px_s1, ↓px_s2, ↓px_nl, ↓px_i1, ↓px_l1, ↓r1_s, ↓px_q1, ↓px_i2, ↓px_l2, ↓px_il, ↓px_d0, ↓px_d1, ↓px_d2, ↓px_pop, ↓px_sp, ↓px_rd, ↓px_rf, ↓pn_xf, ↓px_pt, ↓px_sw, ↓pn_SW, ↓reduceIte, Nat.reduceEqDiff, Nat.reduceAdd, Nat.reduceSub, ↓Option.toList_some, ↓Option.toList_none, ↓List.cons_append, ↓List.nil_append, ↓kI_s, ↓kJ_s, ↓kN_s, ↓kO_s, ↓kZ_s, ↓kE_s, ↓an_rfl, ↓bt1 n00, ↓bt2 n00, ↓bf1 n10, ↓bf2 n10, ↓an_sz0, ↓an_sz1, ↓an_sz2, ↓an_sz3, ↓an_sz4, ↓an_ri, ↓an_rb0, ↓an_rb1, ↓an_b0, ↓an_b1, true_and, ↓ai_0s, ↓al_0s, ↓av_0s, ↓aq_0s, ↓ai_1s, ↓al_1s, ↓av_1s, ↓aq_1s, ↓ai_2s, ↓al_2s, ↓av_2s, ↓aq_2s, ↓ai_3s, ↓al_3s, ↓av_3s, ↓aq_3s, ↓ai_4s, ↓al_4s, ↓av_4s, ↓aq_4s, ↓ai_5s, ↓al_5s, ↓av_5s, ↓aq_5s, ↓ai_6s, ↓al_6s, ↓av_6s, ↓aq_6s, ↓ai_7s, ↓al_7s, ↓av_7s, ↓aq_7s, ↓an_l9, ↓bk_8004, ↓Sg_8005, ↓kp_8004_27, ↓kp_8004_42, ↓bf1 hc0, ↓bf2 hc0, ↓an_t hc1, ↓an_rv hc1, ↓oW_e hc2, ↓bt1 hc3, ↓bt2 hc3]
        exact hs
      · replace hs := oW_f hs hc3
        by_cases hc4 : x4 ≤ (nI 11)
        · replace hs := oW_t hs hc4
          simp only [↓hG, ↓hJf, ↓px_vc, ↓px_ex, ↓px_jp, ↓px_gi, ↓px_gl, ↓px_gr, ↓px_s1, ↓px_s2, ↓px_nl, ↓px_i1, ↓px_l1, ↓r1_s, ↓px_q1, ↓px_i2, ↓px_l2, ↓px_il, ↓px_d0, ↓px_d1, ↓px_d2, ↓px_pop, ↓px_sp, ↓px_rd, ↓px_rf, ↓pn_xf, ↓px_pt, ↓px_sw, ↓pn_SW, ↓reduceIte, Nat.reduceEqDiff, Nat.reduceAdd, Nat.reduceSub, ↓Option.toList_some, ↓Option.toList_none, ↓List.cons_append, ↓List.nil_append, ↓kI_s, ↓kJ_s, ↓kN_s, ↓kO_s, ↓kZ_s, ↓kE_s, ↓an_rfl, ↓bt1 n00, ↓bt2 n00, ↓bf1 n10, ↓bf2 n10, ↓an_sz0, ↓an_sz1, ↓an_sz2, ↓an_sz3, ↓an_sz4, ↓an_ri, ↓an_rb0, ↓an_rb1, ↓an_b0, ↓an_b1, true_and, ↓ai_0s, ↓al_0s, ↓av_0s, ↓aq_0s, ↓ai_1s, ↓al_1s, ↓av_1s, ↓aq_1s, ↓ai_2s, ↓al_2s, ↓av_2s, ↓aq_2s, ↓ai_3s, ↓al_3s, ↓av_3s, ↓aq_3s, ↓ai_4s, ↓al_4s, ↓av_4s, ↓aq_4s, ↓ai_5s, ↓al_5s, ↓av_5s, ↓aq_5s, ↓ai_6s, ↓al_6s, ↓av_6s, ↓aq_6s, ↓ai_7s, ↓al_7s, ↓av_7s, ↓aq_7s, ↓an_l9, ↓bk_8004, ↓Sg_8005, ↓kp_8004_27, ↓kp_8004_42, ↓bf1 hc0, ↓bf2 hc0, ↓an_t hc1, ↓an_rv hc1, ↓oW_e hc2, ↓bf1 hc3, ↓bf2 hc3, ↓bt1 hc4, ↓bt2 hc4]
          exact hs
        · replace hs := oW_f hs hc4
          simp only [↓hG, ↓hJf, ↓px_vc, ↓px_ex, ↓px_jp, ↓px_gi, ↓px_gl, ↓px_gr, ↓px_s1, ↓px_s2, ↓px_nl, ↓px_i1, ↓px_l1, ↓r1_s, ↓px_q1, ↓px_i2, ↓px_l2, ↓px_il, ↓px_d0, ↓px_d1, ↓px_d2, ↓px_pop, ↓px_sp, ↓px_rd, ↓px_rf, ↓pn_xf, ↓px_pt, ↓px_sw, ↓pn_SW, ↓reduceIte, Nat.reduceEqDiff, Nat.reduceAdd, Nat.reduceSub, ↓Option.toList_some, ↓Option.toList_none, ↓List.cons_append, ↓List.nil_append, ↓kI_s, ↓kJ_s, ↓kN_s, ↓kO_s, ↓kZ_s, ↓kE_s, ↓an_rfl, ↓bt1 n00, ↓bt2 n00, ↓bf1 n10, ↓bf2 n10, ↓an_sz0, ↓an_sz1, ↓an_sz2, ↓an_sz3, ↓an_sz4, ↓an_ri, ↓an_rb0, ↓an_rb1, ↓an_b0, ↓an_b1, true_and, ↓ai_0s, ↓al_0s, ↓av_0s, ↓aq_0s, ↓ai_1s, ↓al_1s, ↓av_1s, ↓aq_1s, ↓ai_2s, ↓al_2s, ↓av_2s, ↓aq_2s, ↓ai_3s, ↓al_3s, ↓av_3s, ↓aq_3s, ↓ai_4s, ↓al_4s, ↓av_4s, ↓aq_4s, ↓ai_5s, ↓al_5s, ↓av_5s, ↓aq_5s, ↓ai_6s, ↓al_6s, ↓av_6s, ↓aq_6s, ↓ai_7s, ↓al_7s, ↓av_7s, ↓aq_7s, ↓an_l9, ↓bk_8004, ↓Sg_8005, ↓kp_8004_27, ↓kp_8004_42, ↓bf1 hc0, ↓bf2 hc0, ↓an_t hc1, ↓an_rv hc1, ↓oW_e hc2, ↓bf1 hc3, ↓bf2 hc3, ↓bf1 hc4, ↓bf2 hc4]
          exact hs
noncomputable def fr_8004 (tab : px_T) : Nat → (px_M → Nat → Int32 → Int32 → Int32 → Int32 → Option (Int32 × px_M))
  | 0 => fun _ _ _ _ _ _ => none
  | d + 1 => F_8004 tab ((fr_8004 tab d))
noncomputable def f_8004 (tab : px_T) (d : Nat) : px_M → Nat → Int32 → Int32 → Int32 → Int32 → Option (Int32 × px_M) := fr_8004 tab d
theorem f_8004_S (tab : px_T) (d : Nat) : f_8004 tab (d + 1) = F_8004 tab (f_8004 tab d) := rfl
theorem mr_f8004 {tab : px_T} (hn : px_nd tab) : ∀ (d h : Nat), 1 + d ≤ h → px_Ok tab pn_i8004 h (Sg_8004 (f_8004 tab d)) := by
  intro d
  induction d with
  | zero =>
    intro h hh
    exact px_Ok_no (fun av σ k h0 => by obtain ⟨x0, av0, -, h1⟩ := av_0p h0; obtain ⟨x1, av1, -, h2⟩ := ai_1p h1; obtain ⟨x2, av2, -, h3⟩ := ai_2p h2; obtain ⟨x3, av3, -, h4⟩ := ai_3p h3; obtain ⟨x4, av4, -, h5⟩ := ai_4p h4; obtain ⟨x, hx, -⟩ := h5.2; cases hx)
  | succ d ih =>
    intro h hh
    have h8004 := ih (h - 1) (by omega)
    exact mF_8004 hn (by omega) h8004
theorem mf_8004 {tab : px_T} (hn : px_nd tab) {h d : Nat} (hh : 1 + d ≤ h) : px_Ok tab pn_i8004 h (Sg_8004 (f_8004 tab d)) := (mr_f8004 hn d h hh)
def Sg_11031 (g : px_M → Nat → Int32 → Option (Int32)) : px_S := fun av σ k => av_0 av (fun x0 av => ai_1 av (fun x1 av => av = [] ∧ oW (g σ x0 x1) (fun r => k (some (.inl r)) σ)))
/-- NoThree$Town.firstHalf(I)I -/
noncomputable def f_11031_118 (tab : px_T) (σ : px_M) (x0 : Nat) (x1 : Int32) (x2 : Int32) (x3 : Int32) (x4 : Int32) : Option ((Int32 × Int32 × Int32) ⊕ (Int32)) := some (.inl ((x2, x3, (x4 + (nI 1)))))
noncomputable def f_11031_98 (tab : px_T) (σ : px_M) (x0 : Nat) (x1 : Int32) (x2 : Int32) (x3 : Int32) (x4 : Int32) (x5 : Int32) (x6 : Int32) : Option ((Int32 × Int32 × Int32) ⊕ (Int32)) := if (x5 &&& x6) = nI 0 then (f_11031_118 tab σ x0 x1 ((x2 ||| x5)) ((x3 ||| x6)) x4) else (some (.inr ((-1))))
noncomputable def f_11031_92 (tab : px_T) (σ : px_M) (x0 : Nat) (x1 : Int32) (x2 : Int32) (x3 : Int32) (x4 : Int32) (x5 : Int32) (x6 : Int32) (x7 : Int32) : Option ((Int32 × Int32 × Int32) ⊕ ((Int32 × Int32 × Int32) ⊕ (Int32))) := some (.inl ((x5, x6, (x7 + (nI 1)))))
noncomputable def F_11031_48 (tab : px_T) (σ : px_M) (x0 : Nat) (x1 : Int32) (x2 : Int32) (x3 : Int32) (x4 : Int32) (x5 : Int32) (x6 : Int32) (x7 : Int32) : Option ((Int32 × Int32 × Int32) ⊕ ((Int32 × Int32 × Int32) ⊕ (Int32))) := if (nI 11) ≤ x7 then (Option.map Sum.inr (f_11031_98 tab σ x0 x1 x2 x3 x4 x5 x6)) else (gd (px_obj (px_lay tab x0) 11) ((f_11016 tab σ x0 x5).bind fun r1 => bn ((r1 &&& x1) = x6) ((f_11016 tab σ x0 ((r1 &&& x1))).bind fun r2 => f_11031_92 tab σ x0 x1 x2 x3 x4 ((x5 ||| (r2 &&& x1))) ((r1 &&& x1)) x7) (Option.map Sum.inr (f_11031_98 tab σ x0 x1 x2 x3 x4 x5 x6))))
noncomputable def f_11031_48 (tab : px_T) (σ : px_M) (x0 : Nat) (x1 : Int32) (x2 : Int32) (x3 : Int32) (x4 : Int32) (x5 : Int32) (x6 : Int32) (x7 : Int32) : Option ((Int32 × Int32 × Int32) ⊕ (Int32)) := lpO (fun s : Int32 × Int32 × Int32 => F_11031_48 tab σ x0 x1 x2 x3 x4 s.1 s.2.1 s.2.2) (x5, x6, x7)
theorem f_11031_48_eq (tab : px_T) (σ : px_M) (x0 : Nat) (x1 : Int32) (x2 : Int32) (x3 : Int32) (x4 : Int32) (x5 : Int32) (x6 : Int32) (x7 : Int32) : f_11031_48 tab σ x0 x1 x2 x3 x4 x5 x6 x7 = (F_11031_48 tab σ x0 x1 x2 x3 x4 x5 x6 x7).bind (Sum.elim (fun s => f_11031_48 tab σ x0 x1 x2 x3 x4 s.1 s.2.1 s.2.2) some) := lpO_eq _ _
noncomputable def F_11031_7 (tab : px_T) (σ : px_M) (x0 : Nat) (x1 : Int32) (x2 : Int32) (x3 : Int32) (x4 : Int32) : Option ((Int32 × Int32 × Int32) ⊕ (Int32)) := gd (px_obj (px_lay tab x0) 11) (if ((σ).1 x0 0) ≤ x4 then (some (.inr (x2))) else (bn ((((x1 &&& (x2 ^^^ (-1))) &&& (x3 ^^^ (-1))) &&& ((nI 1) <<< (x4 &&& 31))) = nI 0) (f_11031_48 tab σ x0 x1 x2 x3 x4 (((nI 1) <<< (x4 &&& 31))) ((nI 0)) ((nI 0))) (f_11031_118 tab σ x0 x1 x2 x3 x4)))
noncomputable def f_11031_7 (tab : px_T) (σ : px_M) (x0 : Nat) (x1 : Int32) (x2 : Int32) (x3 : Int32) (x4 : Int32) : Option (Int32) := lpO (fun s : Int32 × Int32 × Int32 => F_11031_7 tab σ x0 x1 s.1 s.2.1 s.2.2) (x2, x3, x4)
theorem f_11031_7_eq (tab : px_T) (σ : px_M) (x0 : Nat) (x1 : Int32) (x2 : Int32) (x3 : Int32) (x4 : Int32) : f_11031_7 tab σ x0 x1 x2 x3 x4 = (F_11031_7 tab σ x0 x1 x2 x3 x4).bind (Sum.elim (fun s => f_11031_7 tab σ x0 x1 s.1 s.2.1 s.2.2) some) := lpO_eq _ _
noncomputable def f_11031 (tab : px_T) (σ : px_M) (x0 : Nat) (x1 : Int32) : Option (Int32) := f_11031_7 tab σ x0 x1 ((nI 0)) ((nI 0)) ((nI 0))
def kp_11031_118 (Q : Nat → Int32 → Int32 → Int32 → Int32 → px_M → Prop) : px_P := fun ls st τ => st = [] ∧ kN ls (fun x0 ls => kI ls (fun x1 ls => kI ls (fun x2 ls => kI ls (fun x3 ls => kI ls (fun x4 ls => kZ ls (fun ls => kZ ls (fun ls => kZ ls (fun ls => kZ ls (fun ls => kE ls (Q x0 x1 x2 x3 x4 τ))))))))))
theorem kq_11031_118 {C : px_C} {k : Option px_V → px_M → Prop} {Q : Nat → Int32 → Int32 → Int32 → Int32 → px_M → Prop} (H : ∀ (x0 : Nat) (x1 : Int32) (x2 : Int32) (x3 : Int32) (x4 : Int32) (τ : px_M), Q x0 x1 x2 x3 x4 τ → ∀ (z5 : Option px_V) (z6 : Option px_V) (z7 : Option px_V) (z8 : Option px_V), px_W C k 118 [some (.inr (.inr (some x0))), some (.inl x1), some (.inl x2), some (.inl x3), some (.inl x4), z5, z6, z7, z8] [] τ) : ∀ ls st τ, kp_11031_118 Q ls st τ → px_W C k 118 ls st τ := by
  intro ls st τ hz
  obtain ⟨ez, h0⟩ := hz
  obtain ⟨x0, l0, e0, h1⟩ := kN_sp h0
  obtain ⟨x1, l1, e1, h2⟩ := kI_sp h1
  obtain ⟨x2, l2, e2, h3⟩ := kI_sp h2
  obtain ⟨x3, l3, e3, h4⟩ := kI_sp h3
  obtain ⟨x4, l4, e4, h5⟩ := kI_sp h4
  obtain ⟨z5, l5, e5, h6⟩ := kZ_sp h5
  obtain ⟨z6, l6, e6, h7⟩ := kZ_sp h6
  obtain ⟨z7, l7, e7, h8⟩ := kZ_sp h7
  obtain ⟨z8, l8, e8, h9⟩ := kZ_sp h8
  obtain ⟨ey, hy⟩ := kE_sp h9
  subst ez
  subst ey
  subst e8
  subst e7
  subst e6
  subst e5
  subst e4
  subst e3
  subst e2
  subst e1
  subst e0
  exact H x0 x1 x2 x3 x4 τ hy z5 z6 z7 z8
def kp_11031_98 (Q : Nat → Int32 → Int32 → Int32 → Int32 → Int32 → Int32 → px_M → Prop) : px_P := fun ls st τ => st = [] ∧ kN ls (fun x0 ls => kI ls (fun x1 ls => kI ls (fun x2 ls => kI ls (fun x3 ls => kI ls (fun x4 ls => kI ls (fun x5 ls => kI ls (fun x6 ls => kZ ls (fun ls => kZ ls (fun ls => kE ls (Q x0 x1 x2 x3 x4 x5 x6 τ))))))))))
theorem kq_11031_98 {C : px_C} {k : Option px_V → px_M → Prop} {Q : Nat → Int32 → Int32 → Int32 → Int32 → Int32 → Int32 → px_M → Prop} (H : ∀ (x0 : Nat) (x1 : Int32) (x2 : Int32) (x3 : Int32) (x4 : Int32) (x5 : Int32) (x6 : Int32) (τ : px_M), Q x0 x1 x2 x3 x4 x5 x6 τ → ∀ (z7 : Option px_V) (z8 : Option px_V), px_W C k 98 [some (.inr (.inr (some x0))), some (.inl x1), some (.inl x2), some (.inl x3), some (.inl x4), some (.inl x5), some (.inl x6), z7, z8] [] τ) : ∀ ls st τ, kp_11031_98 Q ls st τ → px_W C k 98 ls st τ := by
  intro ls st τ hz
  obtain ⟨ez, h0⟩ := hz
  obtain ⟨x0, l0, e0, h1⟩ := kN_sp h0
  obtain ⟨x1, l1, e1, h2⟩ := kI_sp h1
  obtain ⟨x2, l2, e2, h3⟩ := kI_sp h2
  obtain ⟨x3, l3, e3, h4⟩ := kI_sp h3
  obtain ⟨x4, l4, e4, h5⟩ := kI_sp h4
  obtain ⟨x5, l5, e5, h6⟩ := kI_sp h5
  obtain ⟨x6, l6, e6, h7⟩ := kI_sp h6
  obtain ⟨z7, l7, e7, h8⟩ := kZ_sp h7
  obtain ⟨z8, l8, e8, h9⟩ := kZ_sp h8
  obtain ⟨ey, hy⟩ := kE_sp h9
  subst ez
  subst ey
  subst e8
  subst e7
  subst e6
  subst e5
  subst e4
  subst e3
  subst e2
  subst e1
  subst e0
  exact H x0 x1 x2 x3 x4 x5 x6 τ hy z7 z8
def kp_11031_92 (Q : Nat → Int32 → Int32 → Int32 → Int32 → Int32 → Int32 → Int32 → px_M → Prop) : px_P := fun ls st τ => st = [] ∧ kN ls (fun x0 ls => kI ls (fun x1 ls => kI ls (fun x2 ls => kI ls (fun x3 ls => kI ls (fun x4 ls => kI ls (fun x5 ls => kI ls (fun x6 ls => kI ls (fun x7 ls => kZ ls (fun ls => kE ls (Q x0 x1 x2 x3 x4 x5 x6 x7 τ))))))))))
theorem kq_11031_92 {C : px_C} {k : Option px_V → px_M → Prop} {Q : Nat → Int32 → Int32 → Int32 → Int32 → Int32 → Int32 → Int32 → px_M → Prop} (H : ∀ (x0 : Nat) (x1 : Int32) (x2 : Int32) (x3 : Int32) (x4 : Int32) (x5 : Int32) (x6 : Int32) (x7 : Int32) (τ : px_M), Q x0 x1 x2 x3 x4 x5 x6 x7 τ → ∀ (z8 : Option px_V), px_W C k 92 [some (.inr (.inr (some x0))), some (.inl x1), some (.inl x2), some (.inl x3), some (.inl x4), some (.inl x5), some (.inl x6), some (.inl x7), z8] [] τ) : ∀ ls st τ, kp_11031_92 Q ls st τ → px_W C k 92 ls st τ := by
  intro ls st τ hz
  obtain ⟨ez, h0⟩ := hz
  obtain ⟨x0, l0, e0, h1⟩ := kN_sp h0
  obtain ⟨x1, l1, e1, h2⟩ := kI_sp h1
  obtain ⟨x2, l2, e2, h3⟩ := kI_sp h2
  obtain ⟨x3, l3, e3, h4⟩ := kI_sp h3
  obtain ⟨x4, l4, e4, h5⟩ := kI_sp h4
  obtain ⟨x5, l5, e5, h6⟩ := kI_sp h5
  obtain ⟨x6, l6, e6, h7⟩ := kI_sp h6
  obtain ⟨x7, l7, e7, h8⟩ := kI_sp h7
  obtain ⟨z8, l8, e8, h9⟩ := kZ_sp h8
  obtain ⟨ey, hy⟩ := kE_sp h9
  subst ez
  subst ey
  subst e8
  subst e7
  subst e6
  subst e5
  subst e4
  subst e3
  subst e2
  subst e1
  subst e0
  exact H x0 x1 x2 x3 x4 x5 x6 x7 τ hy z8
def kp_11031_48 (Q : Nat → Int32 → Int32 → Int32 → Int32 → Int32 → Int32 → Int32 → px_M → Prop) : px_P := fun ls st τ => st = [] ∧ kN ls (fun x0 ls => kI ls (fun x1 ls => kI ls (fun x2 ls => kI ls (fun x3 ls => kI ls (fun x4 ls => kI ls (fun x5 ls => kI ls (fun x6 ls => kI ls (fun x7 ls => kZ ls (fun ls => kE ls (Q x0 x1 x2 x3 x4 x5 x6 x7 τ))))))))))
theorem kq_11031_48 {C : px_C} {k : Option px_V → px_M → Prop} {Q : Nat → Int32 → Int32 → Int32 → Int32 → Int32 → Int32 → Int32 → px_M → Prop} (H : ∀ (x0 : Nat) (x1 : Int32) (x2 : Int32) (x3 : Int32) (x4 : Int32) (x5 : Int32) (x6 : Int32) (x7 : Int32) (τ : px_M), Q x0 x1 x2 x3 x4 x5 x6 x7 τ → ∀ (z8 : Option px_V), px_W C k 48 [some (.inr (.inr (some x0))), some (.inl x1), some (.inl x2), some (.inl x3), some (.inl x4), some (.inl x5), some (.inl x6), some (.inl x7), z8] [] τ) : ∀ ls st τ, kp_11031_48 Q ls st τ → px_W C k 48 ls st τ := by
  intro ls st τ hz
  obtain ⟨ez, h0⟩ := hz
  obtain ⟨x0, l0, e0, h1⟩ := kN_sp h0
  obtain ⟨x1, l1, e1, h2⟩ := kI_sp h1
  obtain ⟨x2, l2, e2, h3⟩ := kI_sp h2
  obtain ⟨x3, l3, e3, h4⟩ := kI_sp h3
  obtain ⟨x4, l4, e4, h5⟩ := kI_sp h4
  obtain ⟨x5, l5, e5, h6⟩ := kI_sp h5
  obtain ⟨x6, l6, e6, h7⟩ := kI_sp h6
  obtain ⟨x7, l7, e7, h8⟩ := kI_sp h7
  obtain ⟨z8, l8, e8, h9⟩ := kZ_sp h8
  obtain ⟨ey, hy⟩ := kE_sp h9
  subst ez
  subst ey
  subst e8
  subst e7
  subst e6
  subst e5
  subst e4
  subst e3
  subst e2
  subst e1
  subst e0
  exact H x0 x1 x2 x3 x4 x5 x6 x7 τ hy z8
def kp_11031_7 (Q : Nat → Int32 → Int32 → Int32 → Int32 → px_M → Prop) : px_P := fun ls st τ => st = [] ∧ kN ls (fun x0 ls => kI ls (fun x1 ls => kI ls (fun x2 ls => kI ls (fun x3 ls => kI ls (fun x4 ls => kZ ls (fun ls => kZ ls (fun ls => kZ ls (fun ls => kZ ls (fun ls => kE ls (Q x0 x1 x2 x3 x4 τ))))))))))
theorem kq_11031_7 {C : px_C} {k : Option px_V → px_M → Prop} {Q : Nat → Int32 → Int32 → Int32 → Int32 → px_M → Prop} (H : ∀ (x0 : Nat) (x1 : Int32) (x2 : Int32) (x3 : Int32) (x4 : Int32) (τ : px_M), Q x0 x1 x2 x3 x4 τ → ∀ (z5 : Option px_V) (z6 : Option px_V) (z7 : Option px_V) (z8 : Option px_V), px_W C k 7 [some (.inr (.inr (some x0))), some (.inl x1), some (.inl x2), some (.inl x3), some (.inl x4), z5, z6, z7, z8] [] τ) : ∀ ls st τ, kp_11031_7 Q ls st τ → px_W C k 7 ls st τ := by
  intro ls st τ hz
  obtain ⟨ez, h0⟩ := hz
  obtain ⟨x0, l0, e0, h1⟩ := kN_sp h0
  obtain ⟨x1, l1, e1, h2⟩ := kI_sp h1
  obtain ⟨x2, l2, e2, h3⟩ := kI_sp h2
  obtain ⟨x3, l3, e3, h4⟩ := kI_sp h3
  obtain ⟨x4, l4, e4, h5⟩ := kI_sp h4
  obtain ⟨z5, l5, e5, h6⟩ := kZ_sp h5
  obtain ⟨z6, l6, e6, h7⟩ := kZ_sp h6
  obtain ⟨z7, l7, e7, h8⟩ := kZ_sp h7
  obtain ⟨z8, l8, e8, h9⟩ := kZ_sp h8
  obtain ⟨ey, hy⟩ := kE_sp h9
  subst ez
  subst ey
  subst e8
  subst e7
  subst e6
  subst e5
  subst e4
  subst e3
  subst e2
  subst e1
  subst e0
  exact H x0 x1 x2 x3 x4 τ hy z5 z6 z7 z8
set_option maxHeartbeats 4000000 in
set_option maxRecDepth 100000 in
theorem rl_11031_118 {C : px_C} (hn : px_nd (px_tb C)) {h : Nat} (hh : 2 ≤ h) (hC : px_ok C pn_i11031 h) {k : Option px_V → px_M → Prop} {x0 : Nat} {x1 : Int32} {x2 : Int32} {x3 : Int32} {x4 : Int32} {σ : px_M} (hs : oW (f_11031_118 (px_tb C) σ x0 x1 x2 x3 x4) (Sum.elim (fun s : Int32 × Int32 × Int32 => ∀ (z5 : Option px_V) (z6 : Option px_V) (z7 : Option px_V) (z8 : Option px_V), px_W C k 7 [some (.inr (.inr (some x0))), some (.inl x1), some (.inl s.1), some (.inl s.2.1), some (.inl s.2.2), z5, z6, z7, z8] [] σ) (fun r => k (some (.inl r)) σ))) : ∀ (z5 : Option px_V) (z6 : Option px_V) (z7 : Option px_V) (z8 : Option px_V), px_W C k 118 [some (.inr (.inr (some x0))), some (.inl x1), some (.inl x2), some (.inl x3), some (.inl x4), z5, z6, z7, z8] [] σ := by
  intro z5 z6 z7 z8
  refine px_runH (h - 1) ck_11031 [] [(7, kp_11031_7 (fun y0 y1 y2 y3 y4 τ => y0 = x0 ∧ y1 = x1 ∧ τ = σ ∧ (fun s : Int32 × Int32 × Int32 => ∀ (z5 : Option px_V) (z6 : Option px_V) (z7 : Option px_V) (z8 : Option px_V), px_W C k 7 [some (.inr (.inr (some x0))), some (.inl x1), some (.inl s.1), some (.inl s.2.1), some (.inl s.2.2), z5, z6, z7, z8] [] σ) (y2, y3, y4)))] 80 9 (some .int) rfl rfl hC px_nosp (by omega) (px_cut1 (kq_11031_7 (fun y0 y1 y2 y3 y4 τ hq => by obtain ⟨rfl, rfl, rfl, hq⟩ := hq; exact hq)) px_nocut) (fun G Jf hG hJf => ?_)
  unfold f_11031_118 at hs
  simp only [↓hG, ↓hJf, ↓px_vc, ↓px_ex, ↓px_jp, ↓px_gi, ↓px_gl, ↓px_gr, ↓px_s1, ↓px_s2, ↓px_nl, ↓px_i1, ↓px_l1, ↓r1_s, ↓px_q1, ↓px_i2, ↓px_l2, ↓px_il, ↓px_d0, ↓px_d1, ↓px_d2, ↓px_pop, ↓px_sp, ↓px_rd, ↓px_rf, ↓pn_xf, ↓px_pt, ↓px_sw, ↓pn_SW, ↓reduceIte, Nat.reduceEqDiff, Nat.reduceAdd, Nat.reduceSub, ↓Option.toList_some, ↓Option.toList_none, ↓List.cons_append, ↓List.nil_append, ↓kI_s, ↓kJ_s, ↓kN_s, ↓kO_s, ↓kZ_s, ↓kE_s, ↓an_rfl, ↓bt1 n00, ↓bt2 n00, ↓bf1 n10, ↓bf2 n10, ↓an_sz0, ↓an_sz1, ↓an_sz2, ↓an_sz3, ↓an_sz4, ↓an_ri, ↓an_rb0, ↓an_rb1, ↓an_b0, ↓an_b1, true_and, ↓ai_0s, ↓al_0s, ↓av_0s, ↓aq_0s, ↓ai_1s, ↓al_1s, ↓av_1s, ↓aq_1s, ↓ai_2s, ↓al_2s, ↓av_2s, ↓aq_2s, ↓ai_3s, ↓al_3s, ↓av_3s, ↓aq_3s, ↓ai_4s, ↓al_4s, ↓av_4s, ↓aq_4s, ↓ai_5s, ↓al_5s, ↓av_5s, ↓aq_5s, ↓ai_6s, ↓al_6s, ↓av_6s, ↓aq_6s, ↓ai_7s, ↓al_7s, ↓av_7s, ↓aq_7s, ↓an_l9, ↓bk_11031, ↓kp_11031_7]
  rw [oW_some] at hs
  exact hs
set_option maxHeartbeats 4000000 in
set_option maxRecDepth 100000 in
theorem rl_11031_98 {C : px_C} (hn : px_nd (px_tb C)) {h : Nat} (hh : 2 ≤ h) (hC : px_ok C pn_i11031 h) {k : Option px_V → px_M → Prop} {x0 : Nat} {x1 : Int32} {x2 : Int32} {x3 : Int32} {x4 : Int32} {x5 : Int32} {x6 : Int32} {σ : px_M} (hs : oW (f_11031_98 (px_tb C) σ x0 x1 x2 x3 x4 x5 x6) (Sum.elim (fun s : Int32 × Int32 × Int32 => ∀ (z5 : Option px_V) (z6 : Option px_V) (z7 : Option px_V) (z8 : Option px_V), px_W C k 7 [some (.inr (.inr (some x0))), some (.inl x1), some (.inl s.1), some (.inl s.2.1), some (.inl s.2.2), z5, z6, z7, z8] [] σ) (fun r => k (some (.inl r)) σ))) : ∀ (z7 : Option px_V) (z8 : Option px_V), px_W C k 98 [some (.inr (.inr (some x0))), some (.inl x1), some (.inl x2), some (.inl x3), some (.inl x4), some (.inl x5), some (.inl x6), z7, z8] [] σ := by
  intro z7 z8
  refine px_runH (h - 1) ck_11031 [] [(118, kp_11031_118 (fun y0 y1 y2 y3 y4 τ => y0 = x0 ∧ y1 = x1 ∧ τ = σ ∧ oW (f_11031_118 (px_tb C) τ y0 y1 y2 y3 y4) (Sum.elim (fun s : Int32 × Int32 × Int32 => ∀ (z5 : Option px_V) (z6 : Option px_V) (z7 : Option px_V) (z8 : Option px_V), px_W C k 7 [some (.inr (.inr (some x0))), some (.inl x1), some (.inl s.1), some (.inl s.2.1), some (.inl s.2.2), z5, z6, z7, z8] [] σ) (fun r => k (some (.inl r)) σ))))] 80 9 (some .int) rfl rfl hC px_nosp (by omega) (px_cut1 (kq_11031_118 (fun y0 y1 y2 y3 y4 τ hq => by obtain ⟨rfl, rfl, rfl, hq⟩ := hq; exact rl_11031_118 hn (by omega) hC  hq)) px_nocut) (fun G Jf hG hJf => ?_)
  unfold f_11031_98 at hs
  by_cases hc0 : (x5 &&& x6) = nI 0
  · replace hs := oW_t hs hc0
    simp only [↓hG, ↓hJf, ↓px_vc, ↓px_ex, ↓px_jp, ↓px_gi, ↓px_gl, ↓px_gr, ↓px_s1, ↓px_s2, ↓px_nl, ↓px_i1, ↓px_l1, ↓r1_s, ↓px_q1, ↓px_i2, ↓px_l2, ↓px_il, ↓px_d0, ↓px_d1, ↓px_d2, ↓px_pop, ↓px_sp, ↓px_rd, ↓px_rf, ↓pn_xf, ↓px_pt, ↓px_sw, ↓pn_SW, ↓reduceIte, Nat.reduceEqDiff, Nat.reduceAdd, Nat.reduceSub, ↓Option.toList_some, ↓Option.toList_none, ↓List.cons_append, ↓List.nil_append, ↓kI_s, ↓kJ_s, ↓kN_s, ↓kO_s, ↓kZ_s, ↓kE_s, ↓an_rfl, ↓bt1 n00, ↓bt2 n00, ↓bf1 n10, ↓bf2 n10, ↓an_sz0, ↓an_sz1, ↓an_sz2, ↓an_sz3, ↓an_sz4, ↓an_ri, ↓an_rb0, ↓an_rb1, ↓an_b0, ↓an_b1, true_and, ↓ai_0s, ↓al_0s, ↓av_0s, ↓aq_0s, ↓ai_1s, ↓al_1s, ↓av_1s, ↓aq_1s, ↓ai_2s, ↓al_2s, ↓av_2s, ↓aq_2s, ↓ai_3s, ↓al_3s, ↓av_3s, ↓aq_3s, ↓ai_4s, ↓al_4s, ↓av_4s, ↓aq_4s, ↓ai_5s, ↓al_5s, ↓av_5s, ↓aq_5s, ↓ai_6s, ↓al_6s, ↓av_6s, ↓aq_6s, ↓ai_7s, ↓al_7s, ↓av_7s, ↓aq_7s, ↓an_l9, ↓bk_11031, ↓kp_11031_118, ↓bt1 hc0, ↓bt2 hc0]
    exact hs
  · replace hs := oW_f hs hc0
    simp only [↓hG, ↓hJf, ↓px_vc, ↓px_ex, ↓px_jp, ↓px_gi, ↓px_gl, ↓px_gr, ↓px_s1, ↓px_s2, ↓px_nl, ↓px_i1, ↓px_l1, ↓r1_s, ↓px_q1, ↓px_i2, ↓px_l2, ↓px_il, ↓px_d0, ↓px_d1, ↓px_d2, ↓px_pop, ↓px_sp, ↓px_rd, ↓px_rf, ↓pn_xf, ↓px_pt, ↓px_sw, ↓pn_SW, ↓reduceIte, Nat.reduceEqDiff, Nat.reduceAdd, Nat.reduceSub, ↓Option.toList_some, ↓Option.toList_none, ↓List.cons_append, ↓List.nil_append, ↓kI_s, ↓kJ_s, ↓kN_s, ↓kO_s, ↓kZ_s, ↓kE_s, ↓an_rfl, ↓bt1 n00, ↓bt2 n00, ↓bf1 n10, ↓bf2 n10, ↓an_sz0, ↓an_sz1, ↓an_sz2, ↓an_sz3, ↓an_sz4, ↓an_ri, ↓an_rb0, ↓an_rb1, ↓an_b0, ↓an_b1, true_and, ↓ai_0s, ↓al_0s, ↓av_0s, ↓aq_0s, ↓ai_1s, ↓al_1s, ↓av_1s, ↓aq_1s, ↓ai_2s, ↓al_2s, ↓av_2s, ↓aq_2s, ↓ai_3s, ↓al_3s, ↓av_3s, ↓aq_3s, ↓ai_4s, ↓al_4s, ↓av_4s, ↓aq_4s, ↓ai_5s, ↓al_5s, ↓av_5s, ↓aq_5s, ↓ai_6s, ↓al_6s, ↓av_6s, ↓aq_6s, ↓ai_7s, ↓al_7s, ↓av_7s, ↓aq_7s, ↓an_l9, ↓bk_11031, ↓kp_11031_118, ↓bf1 hc0, ↓bf2 hc0]
    rw [oW_some] at hs
    exact hs
set_option maxHeartbeats 4000000 in
set_option maxRecDepth 100000 in
theorem rl_11031_92 {C : px_C} (hn : px_nd (px_tb C)) {h : Nat} (hh : 2 ≤ h) (hC : px_ok C pn_i11031 h) {k : Option px_V → px_M → Prop} {x0 : Nat} {x1 : Int32} {x2 : Int32} {x3 : Int32} {x4 : Int32} {x5 : Int32} {x6 : Int32} {x7 : Int32} {σ : px_M} (hs : oW (f_11031_92 (px_tb C) σ x0 x1 x2 x3 x4 x5 x6 x7) (Sum.elim (fun s : Int32 × Int32 × Int32 => ∀ (z8 : Option px_V), px_W C k 48 [some (.inr (.inr (some x0))), some (.inl x1), some (.inl x2), some (.inl x3), some (.inl x4), some (.inl s.1), some (.inl s.2.1), some (.inl s.2.2), z8] [] σ) (Sum.elim (fun s : Int32 × Int32 × Int32 => ∀ (z5 : Option px_V) (z6 : Option px_V) (z7 : Option px_V) (z8 : Option px_V), px_W C k 7 [some (.inr (.inr (some x0))), some (.inl x1), some (.inl s.1), some (.inl s.2.1), some (.inl s.2.2), z5, z6, z7, z8] [] σ) (fun r => k (some (.inl r)) σ)))) : ∀ (z8 : Option px_V), px_W C k 92 [some (.inr (.inr (some x0))), some (.inl x1), some (.inl x2), some (.inl x3), some (.inl x4), some (.inl x5), some (.inl x6), some (.inl x7), z8] [] σ := by
  intro z8
  refine px_runH (h - 1) ck_11031 [] [(48, kp_11031_48 (fun y0 y1 y2 y3 y4 y5 y6 y7 τ => y0 = x0 ∧ y1 = x1 ∧ y2 = x2 ∧ y3 = x3 ∧ y4 = x4 ∧ τ = σ ∧ (fun s : Int32 × Int32 × Int32 => ∀ (z8 : Option px_V), px_W C k 48 [some (.inr (.inr (some x0))), some (.inl x1), some (.inl x2), some (.inl x3), some (.inl x4), some (.inl s.1), some (.inl s.2.1), some (.inl s.2.2), z8] [] σ) (y5, y6, y7)))] 80 9 (some .int) rfl rfl hC px_nosp (by omega) (px_cut1 (kq_11031_48 (fun y0 y1 y2 y3 y4 y5 y6 y7 τ hq => by obtain ⟨rfl, rfl, rfl, rfl, rfl, rfl, hq⟩ := hq; exact hq)) px_nocut) (fun G Jf hG hJf => ?_)
  unfold f_11031_92 at hs
  simp only [↓hG, ↓hJf, ↓px_vc, ↓px_ex, ↓px_jp, ↓px_gi, ↓px_gl, ↓px_gr, ↓px_s1, ↓px_s2, ↓px_nl, ↓px_i1, ↓px_l1, ↓r1_s, ↓px_q1, ↓px_i2, ↓px_l2, ↓px_il, ↓px_d0, ↓px_d1, ↓px_d2, ↓px_pop, ↓px_sp, ↓px_rd, ↓px_rf, ↓pn_xf, ↓px_pt, ↓px_sw, ↓pn_SW, ↓reduceIte, Nat.reduceEqDiff, Nat.reduceAdd, Nat.reduceSub, ↓Option.toList_some, ↓Option.toList_none, ↓List.cons_append, ↓List.nil_append, ↓kI_s, ↓kJ_s, ↓kN_s, ↓kO_s, ↓kZ_s, ↓kE_s, ↓an_rfl, ↓bt1 n00, ↓bt2 n00, ↓bf1 n10, ↓bf2 n10, ↓an_sz0, ↓an_sz1, ↓an_sz2, ↓an_sz3, ↓an_sz4, ↓an_ri, ↓an_rb0, ↓an_rb1, ↓an_b0, ↓an_b1, true_and, ↓ai_0s, ↓al_0s, ↓av_0s, ↓aq_0s, ↓ai_1s, ↓al_1s, ↓av_1s, ↓aq_1s, ↓ai_2s, ↓al_2s, ↓av_2s, ↓aq_2s, ↓ai_3s, ↓al_3s, ↓av_3s, ↓aq_3s, ↓ai_4s, ↓al_4s, ↓av_4s, ↓aq_4s, ↓ai_5s, ↓al_5s, ↓av_5s, ↓aq_5s, ↓ai_6s, ↓al_6s, ↓av_6s, ↓aq_6s, ↓ai_7s, ↓al_7s, ↓av_7s, ↓aq_7s, ↓an_l9, ↓bk_11031, ↓kp_11031_48]
  rw [oW_some] at hs
  exact hs
set_option maxHeartbeats 4000000 in
set_option maxRecDepth 100000 in
theorem rl_11031_48 {C : px_C} (hn : px_nd (px_tb C)) {h : Nat} (hh : 2 ≤ h) (hC : px_ok C pn_i11031 h) {k : Option px_V → px_M → Prop} {x0 : Nat} {x1 : Int32} {x2 : Int32} {x3 : Int32} {x4 : Int32} {σ : px_M} : ∀ s : Int32 × Int32 × Int32, oW (f_11031_48 (px_tb C) σ x0 x1 x2 x3 x4 s.1 s.2.1 s.2.2) (Sum.elim (fun s : Int32 × Int32 × Int32 => ∀ (z5 : Option px_V) (z6 : Option px_V) (z7 : Option px_V) (z8 : Option px_V), px_W C k 7 [some (.inr (.inr (some x0))), some (.inl x1), some (.inl s.1), some (.inl s.2.1), some (.inl s.2.2), z5, z6, z7, z8] [] σ) (fun r => k (some (.inl r)) σ)) → (fun s : Int32 × Int32 × Int32 => ∀ (z8 : Option px_V), px_W C k 48 [some (.inr (.inr (some x0))), some (.inl x1), some (.inl x2), some (.inl x3), some (.inl x4), some (.inl s.1), some (.inl s.2.1), some (.inl s.2.2), z8] [] σ) s := by
  intro s h0
  refine lpO_sound (P := (fun s : Int32 × Int32 × Int32 => ∀ (z8 : Option px_V), px_W C k 48 [some (.inr (.inr (some x0))), some (.inl x1), some (.inl x2), some (.inl x3), some (.inl x4), some (.inl s.1), some (.inl s.2.1), some (.inl s.2.2), z8] [] σ)) (fun s hs => ?_) h0
  obtain ⟨x5, x6, x7⟩ := s
  intro z8
  refine px_runH (h - 1) ck_11031 [(11016, Sg_11016 (f_11016 (px_tb C)))] [(92, kp_11031_92 (fun y0 y1 y2 y3 y4 y5 y6 y7 τ => y0 = x0 ∧ y1 = x1 ∧ y2 = x2 ∧ y3 = x3 ∧ y4 = x4 ∧ τ = σ ∧ oW (f_11031_92 (px_tb C) τ y0 y1 y2 y3 y4 y5 y6 y7) (Sum.elim (fun s : Int32 × Int32 × Int32 => ∀ (z8 : Option px_V), px_W C k 48 [some (.inr (.inr (some x0))), some (.inl x1), some (.inl x2), some (.inl x3), some (.inl x4), some (.inl s.1), some (.inl s.2.1), some (.inl s.2.2), z8] [] σ) (Sum.elim (fun s : Int32 × Int32 × Int32 => ∀ (z5 : Option px_V) (z6 : Option px_V) (z7 : Option px_V) (z8 : Option px_V), px_W C k 7 [some (.inr (.inr (some x0))), some (.inl x1), some (.inl s.1), some (.inl s.2.1), some (.inl s.2.2), z5, z6, z7, z8] [] σ) (fun r => k (some (.inl r)) σ))))), (98, kp_11031_98 (fun y0 y1 y2 y3 y4 y5 y6 τ => y0 = x0 ∧ y1 = x1 ∧ τ = σ ∧ oW (f_11031_98 (px_tb C) τ y0 y1 y2 y3 y4 y5 y6) (Sum.elim (fun s : Int32 × Int32 × Int32 => ∀ (z5 : Option px_V) (z6 : Option px_V) (z7 : Option px_V) (z8 : Option px_V), px_W C k 7 [some (.inr (.inr (some x0))), some (.inl x1), some (.inl s.1), some (.inl s.2.1), some (.inl s.2.2), z5, z6, z7, z8] [] σ) (fun r => k (some (.inl r)) σ))))] 80 9 (some .int) rfl rfl hC (px_sp1 (mf_11016 hn (by omega)) px_nosp) (by omega) (px_cut1 (kq_11031_92 (fun y0 y1 y2 y3 y4 y5 y6 y7 τ hq => by obtain ⟨rfl, rfl, rfl, rfl, rfl, rfl, hq⟩ := hq; exact rl_11031_92 hn (by omega) hC  hq)) (px_cut1 (kq_11031_98 (fun y0 y1 y2 y3 y4 y5 y6 τ hq => by obtain ⟨rfl, rfl, rfl, hq⟩ := hq; exact rl_11031_98 hn (by omega) hC  hq)) px_nocut)) (fun G Jf hG hJf => ?_)
  replace hs : oW (F_11031_48 (px_tb C) σ x0 x1 x2 x3 x4 x5 x6 x7) _ := hs
  unfold F_11031_48 at hs
  by_cases hc0 : (nI 11) ≤ x7
  · replace hs := oW_t hs hc0
    simp only [↓hG, ↓hJf, ↓px_vc, ↓px_ex, ↓px_jp, ↓px_gi, ↓px_gl, ↓px_gr, ↓px_s1, ↓px_s2, ↓px_nl, ↓px_i1, ↓px_l1, ↓r1_s, ↓px_q1, ↓px_i2, ↓px_l2, ↓px_il, ↓px_d0, ↓px_d1, ↓px_d2, ↓px_pop, ↓px_sp, ↓px_rd, ↓px_rf, ↓pn_xf, ↓px_pt, ↓px_sw, ↓pn_SW, ↓reduceIte, Nat.reduceEqDiff, Nat.reduceAdd, Nat.reduceSub, ↓Option.toList_some, ↓Option.toList_none, ↓List.cons_append, ↓List.nil_append, ↓kI_s, ↓kJ_s, ↓kN_s, ↓kO_s, ↓kZ_s, ↓kE_s, ↓an_rfl, ↓bt1 n00, ↓bt2 n00, ↓bf1 n10, ↓bf2 n10, ↓an_sz0, ↓an_sz1, ↓an_sz2, ↓an_sz3, ↓an_sz4, ↓an_ri, ↓an_rb0, ↓an_rb1, ↓an_b0, ↓an_b1, true_and, ↓ai_0s, ↓al_0s, ↓av_0s, ↓aq_0s, ↓ai_1s, ↓al_1s, ↓av_1s, ↓aq_1s, ↓ai_2s, ↓al_2s, ↓av_2s, ↓aq_2s, ↓ai_3s, ↓al_3s, ↓av_3s, ↓aq_3s, ↓ai_4s, ↓al_4s, ↓av_4s, ↓aq_4s, ↓ai_5s, ↓al_5s, ↓av_5s, ↓aq_5s, ↓ai_6s, ↓al_6s, ↓av_6s, ↓aq_6s, ↓ai_7s, ↓al_7s, ↓av_7s, ↓aq_7s, ↓an_l9, ↓bk_11031, ↓Sg_11016, ↓kp_11031_92, ↓kp_11031_98, ↓bt1 hc0, ↓bt2 hc0]
    simp only [oW_map] at hs
    exact hs
  · replace hs := oW_f hs hc0
    obtain ⟨hc1, hs⟩ := oW_gx hs
    obtain ⟨r1, hc2, hs⟩ := oW_bx hs
    by_cases hc3 : (r1 &&& x1) = x6
    · replace hs := bW_t hs hc3
      simp only [↓hG, ↓hJf, ↓px_vc, ↓px_ex, ↓px_jp, ↓px_gi, ↓px_gl, ↓px_gr, ↓px_s1, ↓px_s2, ↓px_nl, ↓px_i1, ↓px_l1, ↓r1_s, ↓px_q1, ↓px_i2, ↓px_l2, ↓px_il, ↓px_d0, ↓px_d1, ↓px_d2, ↓px_pop, ↓px_sp, ↓px_rd, ↓px_rf, ↓pn_xf, ↓px_pt, ↓px_sw, ↓pn_SW, ↓reduceIte, Nat.reduceEqDiff, Nat.reduceAdd, Nat.reduceSub, ↓Option.toList_some, ↓Option.toList_none, ↓List.cons_append, ↓List.nil_append, ↓kI_s, ↓kJ_s, ↓kN_s, ↓kO_s, ↓kZ_s, ↓kE_s, ↓an_rfl, ↓bt1 n00, ↓bt2 n00, ↓bf1 n10, ↓bf2 n10, ↓an_sz0, ↓an_sz1, ↓an_sz2, ↓an_sz3, ↓an_sz4, ↓an_ri, ↓an_rb0, ↓an_rb1, ↓an_b0, ↓an_b1, true_and, ↓ai_0s, ↓al_0s, ↓av_0s, ↓aq_0s, ↓ai_1s, ↓al_1s, ↓av_1s, ↓aq_1s, ↓ai_2s, ↓al_2s, ↓av_2s, ↓aq_2s, ↓ai_3s, ↓al_3s, ↓av_3s, ↓aq_3s, ↓ai_4s, ↓al_4s, ↓av_4s, ↓aq_4s, ↓ai_5s, ↓al_5s, ↓av_5s, ↓aq_5s, ↓ai_6s, ↓al_6s, ↓av_6s, ↓aq_6s, ↓ai_7s, ↓al_7s, ↓av_7s, ↓aq_7s, ↓an_l9, ↓bk_11031, ↓Sg_11016, ↓kp_11031_92, ↓kp_11031_98, ↓bf1 hc0, ↓bf2 hc0, ↓an_t hc1, ↓an_rv hc1, ↓oW_e hc2, ↓bt1 hc3, ↓bt2 hc3]
      simp only [oW_map] at hs
      exact hs
    · replace hs := bW_f hs hc3
      obtain ⟨r2, hc4, hs⟩ := oW_bx hs
      simp only [↓hG, ↓hJf, ↓px_vc, ↓px_ex, ↓px_jp, ↓px_gi, ↓px_gl, ↓px_gr, ↓px_s1, ↓px_s2, ↓px_nl, ↓px_i1, ↓px_l1, ↓r1_s, ↓px_q1, ↓px_i2, ↓px_l2, ↓px_il, ↓px_d0, ↓px_d1, ↓px_d2, ↓px_pop, ↓px_sp, ↓px_rd, ↓px_rf, ↓pn_xf, ↓px_pt, ↓px_sw, ↓pn_SW, ↓reduceIte, Nat.reduceEqDiff, Nat.reduceAdd, Nat.reduceSub, ↓Option.toList_some, ↓Option.toList_none, ↓List.cons_append, ↓List.nil_append, ↓kI_s, ↓kJ_s, ↓kN_s, ↓kO_s, ↓kZ_s, ↓kE_s, ↓an_rfl, ↓bt1 n00, ↓bt2 n00, ↓bf1 n10, ↓bf2 n10, ↓an_sz0, ↓an_sz1, ↓an_sz2, ↓an_sz3, ↓an_sz4, ↓an_ri, ↓an_rb0, ↓an_rb1, ↓an_b0, ↓an_b1, true_and, ↓ai_0s, ↓al_0s, ↓av_0s, ↓aq_0s, ↓ai_1s, ↓al_1s, ↓av_1s, ↓aq_1s, ↓ai_2s, ↓al_2s, ↓av_2s, ↓aq_2s, ↓ai_3s, ↓al_3s, ↓av_3s, ↓aq_3s, ↓ai_4s, ↓al_4s, ↓av_4s, ↓aq_4s, ↓ai_5s, ↓al_5s, ↓av_5s, ↓aq_5s, ↓ai_6s, ↓al_6s, ↓av_6s, ↓aq_6s, ↓ai_7s, ↓al_7s, ↓av_7s, ↓aq_7s, ↓an_l9, ↓bk_11031, ↓Sg_11016, ↓kp_11031_92, ↓kp_11031_98, ↓bf1 hc0, ↓bf2 hc0, ↓an_t hc1, ↓an_rv hc1, ↓oW_e hc2, ↓bf1 hc3, ↓bf2 hc3, ↓oW_e hc4]
      exact hs
set_option maxHeartbeats 4000000 in
set_option maxRecDepth 100000 in
theorem rl_11031_7 {C : px_C} (hn : px_nd (px_tb C)) {h : Nat} (hh : 2 ≤ h) (hC : px_ok C pn_i11031 h) {k : Option px_V → px_M → Prop} {x0 : Nat} {x1 : Int32} {σ : px_M} : ∀ s : Int32 × Int32 × Int32, oW (f_11031_7 (px_tb C) σ x0 x1 s.1 s.2.1 s.2.2) (fun r => k (some (.inl r)) σ) → (fun s : Int32 × Int32 × Int32 => ∀ (z5 : Option px_V) (z6 : Option px_V) (z7 : Option px_V) (z8 : Option px_V), px_W C k 7 [some (.inr (.inr (some x0))), some (.inl x1), some (.inl s.1), some (.inl s.2.1), some (.inl s.2.2), z5, z6, z7, z8] [] σ) s := by
  intro s h0
  refine lpO_sound (P := (fun s : Int32 × Int32 × Int32 => ∀ (z5 : Option px_V) (z6 : Option px_V) (z7 : Option px_V) (z8 : Option px_V), px_W C k 7 [some (.inr (.inr (some x0))), some (.inl x1), some (.inl s.1), some (.inl s.2.1), some (.inl s.2.2), z5, z6, z7, z8] [] σ)) (fun s hs => ?_) h0
  obtain ⟨x2, x3, x4⟩ := s
  intro z5 z6 z7 z8
  refine px_runH (h - 1) ck_11031 [] [(48, kp_11031_48 (fun y0 y1 y2 y3 y4 y5 y6 y7 τ => y0 = x0 ∧ y1 = x1 ∧ τ = σ ∧ oW (f_11031_48 (px_tb C) τ y0 y1 y2 y3 y4 y5 y6 y7) (Sum.elim (fun s : Int32 × Int32 × Int32 => ∀ (z5 : Option px_V) (z6 : Option px_V) (z7 : Option px_V) (z8 : Option px_V), px_W C k 7 [some (.inr (.inr (some x0))), some (.inl x1), some (.inl s.1), some (.inl s.2.1), some (.inl s.2.2), z5, z6, z7, z8] [] σ) (fun r => k (some (.inl r)) σ)))), (118, kp_11031_118 (fun y0 y1 y2 y3 y4 τ => y0 = x0 ∧ y1 = x1 ∧ τ = σ ∧ oW (f_11031_118 (px_tb C) τ y0 y1 y2 y3 y4) (Sum.elim (fun s : Int32 × Int32 × Int32 => ∀ (z5 : Option px_V) (z6 : Option px_V) (z7 : Option px_V) (z8 : Option px_V), px_W C k 7 [some (.inr (.inr (some x0))), some (.inl x1), some (.inl s.1), some (.inl s.2.1), some (.inl s.2.2), z5, z6, z7, z8] [] σ) (fun r => k (some (.inl r)) σ))))] 80 9 (some .int) rfl rfl hC px_nosp (by omega) (px_cut1 (kq_11031_48 (fun y0 y1 y2 y3 y4 y5 y6 y7 τ hq => by obtain ⟨rfl, rfl, rfl, hq⟩ := hq; exact rl_11031_48 hn (by omega) hC (y5, y6, y7) hq)) (px_cut1 (kq_11031_118 (fun y0 y1 y2 y3 y4 τ hq => by obtain ⟨rfl, rfl, rfl, hq⟩ := hq; exact rl_11031_118 hn (by omega) hC  hq)) px_nocut)) (fun G Jf hG hJf => ?_)
  replace hs : oW (F_11031_7 (px_tb C) σ x0 x1 x2 x3 x4) _ := hs
  unfold F_11031_7 at hs
  obtain ⟨hc0, hs⟩ := oW_gx hs
  by_cases hc1 : ((σ).1 x0 0) ≤ x4
  · replace hs := oW_t hs hc1
    simp only [↓hG, ↓hJf, ↓px_vc, ↓px_ex, ↓px_jp, ↓px_gi, ↓px_gl, ↓px_gr, ↓px_s1, ↓px_s2, ↓px_nl, ↓px_i1, ↓px_l1, ↓r1_s, ↓px_q1, ↓px_i2, ↓px_l2, ↓px_il, ↓px_d0, ↓px_d1, ↓px_d2, ↓px_pop, ↓px_sp, ↓px_rd, ↓px_rf, ↓pn_xf, ↓px_pt, ↓px_sw, ↓pn_SW, ↓reduceIte, Nat.reduceEqDiff, Nat.reduceAdd, Nat.reduceSub, ↓Option.toList_some, ↓Option.toList_none, ↓List.cons_append, ↓List.nil_append, ↓kI_s, ↓kJ_s, ↓kN_s, ↓kO_s, ↓kZ_s, ↓kE_s, ↓an_rfl, ↓bt1 n00, ↓bt2 n00, ↓bf1 n10, ↓bf2 n10, ↓an_sz0, ↓an_sz1, ↓an_sz2, ↓an_sz3, ↓an_sz4, ↓an_ri, ↓an_rb0, ↓an_rb1, ↓an_b0, ↓an_b1, true_and, ↓ai_0s, ↓al_0s, ↓av_0s, ↓aq_0s, ↓ai_1s, ↓al_1s, ↓av_1s, ↓aq_1s, ↓ai_2s, ↓al_2s, ↓av_2s, ↓aq_2s, ↓ai_3s, ↓al_3s, ↓av_3s, ↓aq_3s, ↓ai_4s, ↓al_4s, ↓av_4s, ↓aq_4s, ↓ai_5s, ↓al_5s, ↓av_5s, ↓aq_5s, ↓ai_6s, ↓al_6s, ↓av_6s, ↓aq_6s, ↓ai_7s, ↓al_7s, ↓av_7s, ↓aq_7s, ↓an_l9, ↓bk_11031, ↓kp_11031_48, ↓kp_11031_118, ↓an_t hc0, ↓an_rv hc0, ↓bt1 hc1, ↓bt2 hc1]
    rw [oW_some] at hs
    exact hs
  · replace hs := oW_f hs hc1
    by_cases hc2 : (((x1 &&& (x2 ^^^ (-1))) &&& (x3 ^^^ (-1))) &&& ((nI 1) <<< (x4 &&& 31))) = nI 0
    · replace hs := bW_t hs hc2
      simp only [↓hG, ↓hJf, ↓px_vc, ↓px_ex, ↓px_jp, ↓px_gi, ↓px_gl, ↓px_gr, ↓px_s1, ↓px_s2, ↓px_nl, ↓px_i1, ↓px_l1, ↓r1_s, ↓px_q1, ↓px_i2, ↓px_l2, ↓px_il, ↓px_d0, ↓px_d1, ↓px_d2, ↓px_pop, ↓px_sp, ↓px_rd, ↓px_rf, ↓pn_xf, ↓px_pt, ↓px_sw, ↓pn_SW, ↓reduceIte, Nat.reduceEqDiff, Nat.reduceAdd, Nat.reduceSub, ↓Option.toList_some, ↓Option.toList_none, ↓List.cons_append, ↓List.nil_append, ↓kI_s, ↓kJ_s, ↓kN_s, ↓kO_s, ↓kZ_s, ↓kE_s, ↓an_rfl, ↓bt1 n00, ↓bt2 n00, ↓bf1 n10, ↓bf2 n10, ↓an_sz0, ↓an_sz1, ↓an_sz2, ↓an_sz3, ↓an_sz4, ↓an_ri, ↓an_rb0, ↓an_rb1, ↓an_b0, ↓an_b1, true_and, ↓ai_0s, ↓al_0s, ↓av_0s, ↓aq_0s, ↓ai_1s, ↓al_1s, ↓av_1s, ↓aq_1s, ↓ai_2s, ↓al_2s, ↓av_2s, ↓aq_2s, ↓ai_3s, ↓al_3s, ↓av_3s, ↓aq_3s, ↓ai_4s, ↓al_4s, ↓av_4s, ↓aq_4s, ↓ai_5s, ↓al_5s, ↓av_5s, ↓aq_5s, ↓ai_6s, ↓al_6s, ↓av_6s, ↓aq_6s, ↓ai_7s, ↓al_7s, ↓av_7s, ↓aq_7s, ↓an_l9, ↓bk_11031, ↓kp_11031_48, ↓kp_11031_118, ↓an_t hc0, ↓an_rv hc0, ↓bf1 hc1, ↓bf2 hc1, ↓bt1 hc2, ↓bt2 hc2]
      exact hs
    · replace hs := bW_f hs hc2
      simp only [↓hG, ↓hJf, ↓px_vc, ↓px_ex, ↓px_jp, ↓px_gi, ↓px_gl, ↓px_gr, ↓px_s1, ↓px_s2, ↓px_nl, ↓px_i1, ↓px_l1, ↓r1_s, ↓px_q1, ↓px_i2, ↓px_l2, ↓px_il, ↓px_d0, ↓px_d1, ↓px_d2, ↓px_pop, ↓px_sp, ↓px_rd, ↓px_rf, ↓pn_xf, ↓px_pt, ↓px_sw, ↓pn_SW, ↓reduceIte, Nat.reduceEqDiff, Nat.reduceAdd, Nat.reduceSub, ↓Option.toList_some, ↓Option.toList_none, ↓List.cons_append, ↓List.nil_append, ↓kI_s, ↓kJ_s, ↓kN_s, ↓kO_s, ↓kZ_s, ↓kE_s, ↓an_rfl, ↓bt1 n00, ↓bt2 n00, ↓bf1 n10, ↓bf2 n10, ↓an_sz0, ↓an_sz1, ↓an_sz2, ↓an_sz3, ↓an_sz4, ↓an_ri, ↓an_rb0, ↓an_rb1, ↓an_b0, ↓an_b1, true_and, ↓ai_0s, ↓al_0s, ↓av_0s, ↓aq_0s, ↓ai_1s, ↓al_1s, ↓av_1s, ↓aq_1s, ↓ai_2s, ↓al_2s, ↓av_2s, ↓aq_2s, ↓ai_3s, ↓al_3s, ↓av_3s, ↓aq_3s, ↓ai_4s, ↓al_4s, ↓av_4s, ↓aq_4s, ↓ai_5s, ↓al_5s, ↓av_5s, ↓aq_5s, ↓ai_6s, ↓al_6s, ↓av_6s, ↓aq_6s, ↓ai_7s, ↓al_7s, ↓av_7s, ↓aq_7s, ↓an_l9, ↓bk_11031, ↓kp_11031_48, ↓kp_11031_118, ↓an_t hc0, ↓an_rv hc0, ↓bf1 hc1, ↓bf2 hc1, ↓bf1 hc2, ↓bf2 hc2]
      exact hs
set_option maxHeartbeats 4000000 in
set_option maxRecDepth 100000 in
theorem mf_11031 {tab : px_T} (hn : px_nd tab) {h : Nat} (hh : 2 ≤ h) : px_Ok tab pn_i11031 h (Sg_11031 (f_11031 tab)) := by
  refine px_mth hn (by decide +kernel) (fun av σ k hS => ?_) (fun C hT hC av σ k hS => ?_)
  · obtain ⟨x0, av0, e0, h0⟩ := av_0p hS
    obtain ⟨x1, av1, e1, h1⟩ := ai_1p h0
    obtain ⟨ez, hs⟩ := h1
    subst ez
    subst e1
    subst e0
    exact Nat.le_of_ble_eq_true rfl
  · obtain ⟨x0, av0, e0, h0⟩ := av_0p hS
    obtain ⟨x1, av1, e1, h1⟩ := ai_1p h0
    obtain ⟨ez, hs⟩ := h1
    subst ez
    subst e1
    subst e0
    subst hT
    show px_W C k 0 [some (.inr (.inr (some x0))), some (.inl x1), none, none, none, none, none, none, none] [] σ
    refine px_runH (h - 1) ck_11031 [] [(7, kp_11031_7 (fun y0 y1 y2 y3 y4 τ => τ = σ ∧ oW (f_11031_7 (px_tb C) τ y0 y1 y2 y3 y4) (fun r => k (some (.inl r)) σ)))] 80 9 (some .int) rfl rfl hC px_nosp (by omega) (px_cut1 (kq_11031_7 (fun y0 y1 y2 y3 y4 τ hq => by obtain ⟨rfl, hq⟩ := hq; exact rl_11031_7 hn (by omega) hC (y2, y3, y4) hq)) px_nocut) (fun G Jf hG hJf => ?_)
    unfold f_11031 at hs
    simp only [↓hG, ↓hJf, ↓px_vc, ↓px_ex, ↓px_jp, ↓px_gi, ↓px_gl, ↓px_gr, ↓px_s1, ↓px_s2, ↓px_nl, ↓px_i1, ↓px_l1, ↓r1_s, ↓px_q1, ↓px_i2, ↓px_l2, ↓px_il, ↓px_d0, ↓px_d1, ↓px_d2, ↓px_pop, ↓px_sp, ↓px_rd, ↓px_rf, ↓pn_xf, ↓px_pt, ↓px_sw, ↓pn_SW, ↓reduceIte, Nat.reduceEqDiff, Nat.reduceAdd, Nat.reduceSub, ↓Option.toList_some, ↓Option.toList_none, ↓List.cons_append, ↓List.nil_append, ↓kI_s, ↓kJ_s, ↓kN_s, ↓kO_s, ↓kZ_s, ↓kE_s, ↓an_rfl, ↓bt1 n00, ↓bt2 n00, ↓bf1 n10, ↓bf2 n10, ↓an_sz0, ↓an_sz1, ↓an_sz2, ↓an_sz3, ↓an_sz4, ↓an_ri, ↓an_rb0, ↓an_rb1, ↓an_b0, ↓an_b1, true_and, ↓ai_0s, ↓al_0s, ↓av_0s, ↓aq_0s, ↓ai_1s, ↓al_1s, ↓av_1s, ↓aq_1s, ↓ai_2s, ↓al_2s, ↓av_2s, ↓aq_2s, ↓ai_3s, ↓al_3s, ↓av_3s, ↓aq_3s, ↓ai_4s, ↓al_4s, ↓av_4s, ↓aq_4s, ↓ai_5s, ↓al_5s, ↓av_5s, ↓aq_5s, ↓ai_6s, ↓al_6s, ↓av_6s, ↓aq_6s, ↓ai_7s, ↓al_7s, ↓av_7s, ↓aq_7s, ↓an_l9, ↓bk_11031, ↓kp_11031_7]
    exact hs
def Sg_8002 (g : px_M → Nat → Nat → Int32 → Option (Int32 × px_M)) : px_S := fun av σ k => av_0 av (fun x0 av => av_1 av (fun x1 av => ai_2 av (fun x2 av => av = [] ∧ oW (g σ x0 x1 x2) (fun q => k (some (.inl q.1)) q.2))))
/-- NoThree$Painter.fewest(LNoThree$Town;I)I -/
noncomputable def f_8002_74 (tab : px_T) (σ : px_M) (x0 : Nat) (x2 : Int32) (x3 : Int32) : Option ((Int32 × px_M) ⊕ (Int32 × px_M)) := some (.inl (((x3 + (nI 1)), σ)))
noncomputable def f_8002_72 (tab : px_T) (σ : px_M) (x3 : Int32) : Option (Int32 × px_M) := some ((x3, σ))
noncomputable def F_8002_42 (tab : px_T) (x0 : Nat) (x2 : Int32) (x3 : Int32) (σ : px_M) : Option ((Int32 × px_M) ⊕ (Int32 × px_M)) := if (nI 11) ≤ x3 then (some (.inr (((nI 11), σ)))) else (gd (px_obj (px_lay tab x0) 8) ((((σ).2.2 x0 0)).bind fun n1 => (f_22000 tab σ n1 ((nI 0))).bind fun q2 => (f_8003 tab q2 x0 x2 x3).bind fun r3 => (f_8004 tab 24 q2 x0 r3 ((nI 0)) x3 ((nI 0))).bind fun q4 => if q4.1 = nI 0 then (f_8002_74 tab q4.2 x0 x2 x3) else (Option.map Sum.inr (f_8002_72 tab q4.2 x3))))
noncomputable def f_8002_42 (tab : px_T) (x0 : Nat) (x2 : Int32) (x3 : Int32) (σ : px_M) : Option (Int32 × px_M) := lpO (fun s : Int32 × px_M => F_8002_42 tab x0 x2 s.1 s.2) (x3, σ)
theorem f_8002_42_eq (tab : px_T) (x0 : Nat) (x2 : Int32) (x3 : Int32) (σ : px_M) : f_8002_42 tab x0 x2 x3 σ = (F_8002_42 tab x0 x2 x3 σ).bind (Sum.elim (fun s => f_8002_42 tab x0 x2 s.1 s.2) some) := lpO_eq _ _
noncomputable def f_8002_40 (tab : px_T) (σ : px_M) (x0 : Nat) (x2 : Int32) : Option (Int32 × px_M) := f_8002_42 tab x0 x2 ((nI 3)) σ
noncomputable def f_8002_38 (tab : px_T) (σ : px_M) : Option (Int32 × px_M) := some (((nI 2), σ))
noncomputable def f_8002 (tab : px_T) (σ : px_M) (x0 : Nat) (x1 : Nat) (x2 : Int32) : Option (Int32 × px_M) := gd (px_obj (px_lay tab x0) 8) (bn (x2 = nI 0) (((((px_wr σ x0 2 (some x1))).2.2 x0 2)).bind fun n1 => gd (px_obj (px_lay tab n1) 11) ((f_11016 tab (px_wr σ x0 2 (some x1)) n1 x2).bind fun r2 => bn ((r2 &&& x2) = nI 0) ((f_11031 tab (px_wr σ x0 2 (some x1)) n1 x2).bind fun r3 => if r3 = (-1) then (f_8002_40 tab ((px_wr σ x0 2 (some x1))) x0 x2) else (f_8002_38 tab ((px_wr σ x0 2 (some x1))))) (some (((nI 1), (px_wr σ x0 2 (some x1))))))) (some (((nI 0), (px_wr σ x0 2 (some x1))))))
def kp_8002_74 (Q : Nat → Int32 → Int32 → px_M → Prop) : px_P := fun ls st τ => st = [] ∧ kN ls (fun x0 ls => kZ ls (fun ls => kI ls (fun x2 ls => kI ls (fun x3 ls => kE ls (Q x0 x2 x3 τ)))))
theorem kq_8002_74 {C : px_C} {k : Option px_V → px_M → Prop} {Q : Nat → Int32 → Int32 → px_M → Prop} (H : ∀ (x0 : Nat) (x2 : Int32) (x3 : Int32) (τ : px_M), Q x0 x2 x3 τ → ∀ (z1 : Option px_V), px_W C k 74 [some (.inr (.inr (some x0))), z1, some (.inl x2), some (.inl x3)] [] τ) : ∀ ls st τ, kp_8002_74 Q ls st τ → px_W C k 74 ls st τ := by
  intro ls st τ hz
  obtain ⟨ez, h0⟩ := hz
  obtain ⟨x0, l0, e0, h1⟩ := kN_sp h0
  obtain ⟨z1, l1, e1, h2⟩ := kZ_sp h1
  obtain ⟨x2, l2, e2, h3⟩ := kI_sp h2
  obtain ⟨x3, l3, e3, h4⟩ := kI_sp h3
  obtain ⟨ey, hy⟩ := kE_sp h4
  subst ez
  subst ey
  subst e3
  subst e2
  subst e1
  subst e0
  exact H x0 x2 x3 τ hy z1
def kp_8002_72 (Q : Int32 → px_M → Prop) : px_P := fun ls st τ => st = [] ∧ kZ ls (fun ls => kZ ls (fun ls => kZ ls (fun ls => kI ls (fun x3 ls => kE ls (Q x3 τ)))))
theorem kq_8002_72 {C : px_C} {k : Option px_V → px_M → Prop} {Q : Int32 → px_M → Prop} (H : ∀ (x3 : Int32) (τ : px_M), Q x3 τ → ∀ (z0 : Option px_V) (z1 : Option px_V) (z2 : Option px_V), px_W C k 72 [z0, z1, z2, some (.inl x3)] [] τ) : ∀ ls st τ, kp_8002_72 Q ls st τ → px_W C k 72 ls st τ := by
  intro ls st τ hz
  obtain ⟨ez, h0⟩ := hz
  obtain ⟨z0, l0, e0, h1⟩ := kZ_sp h0
  obtain ⟨z1, l1, e1, h2⟩ := kZ_sp h1
  obtain ⟨z2, l2, e2, h3⟩ := kZ_sp h2
  obtain ⟨x3, l3, e3, h4⟩ := kI_sp h3
  obtain ⟨ey, hy⟩ := kE_sp h4
  subst ez
  subst ey
  subst e3
  subst e2
  subst e1
  subst e0
  exact H x3 τ hy z0 z1 z2
def kp_8002_42 (Q : Nat → Int32 → Int32 → px_M → Prop) : px_P := fun ls st τ => st = [] ∧ kN ls (fun x0 ls => kZ ls (fun ls => kI ls (fun x2 ls => kI ls (fun x3 ls => kE ls (Q x0 x2 x3 τ)))))
theorem kq_8002_42 {C : px_C} {k : Option px_V → px_M → Prop} {Q : Nat → Int32 → Int32 → px_M → Prop} (H : ∀ (x0 : Nat) (x2 : Int32) (x3 : Int32) (τ : px_M), Q x0 x2 x3 τ → ∀ (z1 : Option px_V), px_W C k 42 [some (.inr (.inr (some x0))), z1, some (.inl x2), some (.inl x3)] [] τ) : ∀ ls st τ, kp_8002_42 Q ls st τ → px_W C k 42 ls st τ := by
  intro ls st τ hz
  obtain ⟨ez, h0⟩ := hz
  obtain ⟨x0, l0, e0, h1⟩ := kN_sp h0
  obtain ⟨z1, l1, e1, h2⟩ := kZ_sp h1
  obtain ⟨x2, l2, e2, h3⟩ := kI_sp h2
  obtain ⟨x3, l3, e3, h4⟩ := kI_sp h3
  obtain ⟨ey, hy⟩ := kE_sp h4
  subst ez
  subst ey
  subst e3
  subst e2
  subst e1
  subst e0
  exact H x0 x2 x3 τ hy z1
def kp_8002_40 (Q : Nat → Int32 → px_M → Prop) : px_P := fun ls st τ => st = [] ∧ kN ls (fun x0 ls => kZ ls (fun ls => kI ls (fun x2 ls => kZ ls (fun ls => kE ls (Q x0 x2 τ)))))
theorem kq_8002_40 {C : px_C} {k : Option px_V → px_M → Prop} {Q : Nat → Int32 → px_M → Prop} (H : ∀ (x0 : Nat) (x2 : Int32) (τ : px_M), Q x0 x2 τ → ∀ (z1 : Option px_V) (z3 : Option px_V), px_W C k 40 [some (.inr (.inr (some x0))), z1, some (.inl x2), z3] [] τ) : ∀ ls st τ, kp_8002_40 Q ls st τ → px_W C k 40 ls st τ := by
  intro ls st τ hz
  obtain ⟨ez, h0⟩ := hz
  obtain ⟨x0, l0, e0, h1⟩ := kN_sp h0
  obtain ⟨z1, l1, e1, h2⟩ := kZ_sp h1
  obtain ⟨x2, l2, e2, h3⟩ := kI_sp h2
  obtain ⟨z3, l3, e3, h4⟩ := kZ_sp h3
  obtain ⟨ey, hy⟩ := kE_sp h4
  subst ez
  subst ey
  subst e3
  subst e2
  subst e1
  subst e0
  exact H x0 x2 τ hy z1 z3
def kp_8002_38 (Q : px_M → Prop) : px_P := fun ls st τ => st = [] ∧ kZ ls (fun ls => kZ ls (fun ls => kZ ls (fun ls => kZ ls (fun ls => kE ls (Q τ)))))
theorem kq_8002_38 {C : px_C} {k : Option px_V → px_M → Prop} {Q : px_M → Prop} (H : ∀ (τ : px_M), Q τ → ∀ (z0 : Option px_V) (z1 : Option px_V) (z2 : Option px_V) (z3 : Option px_V), px_W C k 38 [z0, z1, z2, z3] [] τ) : ∀ ls st τ, kp_8002_38 Q ls st τ → px_W C k 38 ls st τ := by
  intro ls st τ hz
  obtain ⟨ez, h0⟩ := hz
  obtain ⟨z0, l0, e0, h1⟩ := kZ_sp h0
  obtain ⟨z1, l1, e1, h2⟩ := kZ_sp h1
  obtain ⟨z2, l2, e2, h3⟩ := kZ_sp h2
  obtain ⟨z3, l3, e3, h4⟩ := kZ_sp h3
  obtain ⟨ey, hy⟩ := kE_sp h4
  subst ez
  subst ey
  subst e3
  subst e2
  subst e1
  subst e0
  exact H τ hy z0 z1 z2 z3
set_option maxHeartbeats 4000000 in
set_option maxRecDepth 100000 in
theorem rl_8002_74 {C : px_C} (hn : px_nd (px_tb C)) {h : Nat} (hh : 27 ≤ h) (hC : px_ok C pn_i8002 h) {k : Option px_V → px_M → Prop} {x0 : Nat} {x2 : Int32} {x3 : Int32} {σ : px_M} (hs : oW (f_8002_74 (px_tb C) σ x0 x2 x3) (Sum.elim (fun s : Int32 × px_M => ∀ (z1 : Option px_V), px_W C k 42 [some (.inr (.inr (some x0))), z1, some (.inl x2), some (.inl s.1)] [] s.2) (fun q => k (some (.inl q.1)) q.2))) : ∀ (z1 : Option px_V), px_W C k 74 [some (.inr (.inr (some x0))), z1, some (.inl x2), some (.inl x3)] [] σ := by
  intro z1
  refine px_runH (h - 1) ck_8002 [] [(42, kp_8002_42 (fun y0 y2 y3 τ => y0 = x0 ∧ y2 = x2 ∧ (fun s : Int32 × px_M => ∀ (z1 : Option px_V), px_W C k 42 [some (.inr (.inr (some x0))), z1, some (.inl x2), some (.inl s.1)] [] s.2) (y3, τ)))] 80 4 (some .int) rfl rfl hC px_nosp (by omega) (px_cut1 (kq_8002_42 (fun y0 y2 y3 τ hq => by obtain ⟨rfl, rfl, hq⟩ := hq; exact hq)) px_nocut) (fun G Jf hG hJf => ?_)
  unfold f_8002_74 at hs
  simp only [↓hG, ↓hJf, ↓px_vc, ↓px_ex, ↓px_jp, ↓px_gi, ↓px_gl, ↓px_gr, ↓px_s1, ↓px_s2, ↓px_nl, ↓px_i1, ↓px_l1, ↓r1_s, ↓px_q1, ↓px_i2, ↓px_l2, ↓px_il, ↓px_d0, ↓px_d1, ↓px_d2, ↓px_pop, ↓px_sp, ↓px_rd, ↓px_rf, ↓pn_xf, ↓px_pt, ↓px_sw, ↓pn_SW, ↓reduceIte, Nat.reduceEqDiff, Nat.reduceAdd, Nat.reduceSub, ↓Option.toList_some, ↓Option.toList_none, ↓List.cons_append, ↓List.nil_append, ↓kI_s, ↓kJ_s, ↓kN_s, ↓kO_s, ↓kZ_s, ↓kE_s, ↓an_rfl, ↓bt1 n00, ↓bt2 n00, ↓bf1 n10, ↓bf2 n10, ↓an_sz0, ↓an_sz1, ↓an_sz2, ↓an_sz3, ↓an_sz4, ↓an_ri, ↓an_rb0, ↓an_rb1, ↓an_b0, ↓an_b1, true_and, ↓ai_0s, ↓al_0s, ↓av_0s, ↓aq_0s, ↓ai_1s, ↓al_1s, ↓av_1s, ↓aq_1s, ↓ai_2s, ↓al_2s, ↓av_2s, ↓aq_2s, ↓ai_3s, ↓al_3s, ↓av_3s, ↓aq_3s, ↓ai_4s, ↓al_4s, ↓av_4s, ↓aq_4s, ↓ai_5s, ↓al_5s, ↓av_5s, ↓aq_5s, ↓ai_6s, ↓al_6s, ↓av_6s, ↓aq_6s, ↓ai_7s, ↓al_7s, ↓av_7s, ↓aq_7s, ↓an_l4, ↓bk_8002, ↓kp_8002_42]
  rw [oW_some] at hs
  exact hs
set_option maxHeartbeats 4000000 in
set_option maxRecDepth 100000 in
theorem rl_8002_72 {C : px_C} (hn : px_nd (px_tb C)) {h : Nat} (hh : 27 ≤ h) (hC : px_ok C pn_i8002 h) {k : Option px_V → px_M → Prop} {x3 : Int32} {σ : px_M} (hs : oW (f_8002_72 (px_tb C) σ x3) (fun q => k (some (.inl q.1)) q.2)) : ∀ (z0 : Option px_V) (z1 : Option px_V) (z2 : Option px_V), px_W C k 72 [z0, z1, z2, some (.inl x3)] [] σ := by
  intro z0 z1 z2
  refine px_runH (h - 1) ck_8002 [] [] 80 4 (some .int) rfl rfl hC px_nosp (by omega) px_nocut (fun G Jf hG hJf => ?_)
  unfold f_8002_72 at hs
  simp only [↓hG, ↓hJf, ↓px_vc, ↓px_ex, ↓px_jp, ↓px_gi, ↓px_gl, ↓px_gr, ↓px_s1, ↓px_s2, ↓px_nl, ↓px_i1, ↓px_l1, ↓r1_s, ↓px_q1, ↓px_i2, ↓px_l2, ↓px_il, ↓px_d0, ↓px_d1, ↓px_d2, ↓px_pop, ↓px_sp, ↓px_rd, ↓px_rf, ↓pn_xf, ↓px_pt, ↓px_sw, ↓pn_SW, ↓reduceIte, Nat.reduceEqDiff, Nat.reduceAdd, Nat.reduceSub, ↓Option.toList_some, ↓Option.toList_none, ↓List.cons_append, ↓List.nil_append, ↓kI_s, ↓kJ_s, ↓kN_s, ↓kO_s, ↓kZ_s, ↓kE_s, ↓an_rfl, ↓bt1 n00, ↓bt2 n00, ↓bf1 n10, ↓bf2 n10, ↓an_sz0, ↓an_sz1, ↓an_sz2, ↓an_sz3, ↓an_sz4, ↓an_ri, ↓an_rb0, ↓an_rb1, ↓an_b0, ↓an_b1, true_and, ↓ai_0s, ↓al_0s, ↓av_0s, ↓aq_0s, ↓ai_1s, ↓al_1s, ↓av_1s, ↓aq_1s, ↓ai_2s, ↓al_2s, ↓av_2s, ↓aq_2s, ↓ai_3s, ↓al_3s, ↓av_3s, ↓aq_3s, ↓ai_4s, ↓al_4s, ↓av_4s, ↓aq_4s, ↓ai_5s, ↓al_5s, ↓av_5s, ↓aq_5s, ↓ai_6s, ↓al_6s, ↓av_6s, ↓aq_6s, ↓ai_7s, ↓al_7s, ↓av_7s, ↓aq_7s, ↓an_l4, ↓bk_8002]
  rw [oW_some] at hs
  exact hs
set_option maxHeartbeats 4000000 in
set_option maxRecDepth 100000 in
theorem rl_8002_42 {C : px_C} (hn : px_nd (px_tb C)) {h : Nat} (hh : 27 ≤ h) (hC : px_ok C pn_i8002 h) {k : Option px_V → px_M → Prop} {x0 : Nat} {x2 : Int32} : ∀ s : Int32 × px_M, oW (f_8002_42 (px_tb C) x0 x2 s.1 s.2) (fun q => k (some (.inl q.1)) q.2) → (fun s : Int32 × px_M => ∀ (z1 : Option px_V), px_W C k 42 [some (.inr (.inr (some x0))), z1, some (.inl x2), some (.inl s.1)] [] s.2) s := by
  intro s h0
  refine lpO_sound (P := (fun s : Int32 × px_M => ∀ (z1 : Option px_V), px_W C k 42 [some (.inr (.inr (some x0))), z1, some (.inl x2), some (.inl s.1)] [] s.2)) (fun s hs => ?_) h0
  obtain ⟨x3, σ⟩ := s
  intro z1
  refine px_runH (h - 1) ck_8002 [(8003, Sg_8003 (f_8003 (px_tb C))), (8004, Sg_8004 (f_8004 (px_tb C) 24)), (22000, Sg_22000 (f_22000 (px_tb C)))] [(72, kp_8002_72 (fun y3 τ => oW (f_8002_72 (px_tb C) τ y3) (fun q => k (some (.inl q.1)) q.2))), (74, kp_8002_74 (fun y0 y2 y3 τ => y0 = x0 ∧ y2 = x2 ∧ oW (f_8002_74 (px_tb C) τ y0 y2 y3) (Sum.elim (fun s : Int32 × px_M => ∀ (z1 : Option px_V), px_W C k 42 [some (.inr (.inr (some x0))), z1, some (.inl x2), some (.inl s.1)] [] s.2) (fun q => k (some (.inl q.1)) q.2))))] 80 4 (some .int) rfl rfl hC (px_sp1 (mf_8003 hn (by omega)) (px_sp1 (mf_8004 hn (by omega)) (px_sp1 (mf_22000 hn (by omega)) px_nosp))) (by omega) (px_cut1 (kq_8002_72 (fun y3 τ hq => by exact rl_8002_72 hn (by omega) hC  hq)) (px_cut1 (kq_8002_74 (fun y0 y2 y3 τ hq => by obtain ⟨rfl, rfl, hq⟩ := hq; exact rl_8002_74 hn (by omega) hC  hq)) px_nocut)) (fun G Jf hG hJf => ?_)
  replace hs : oW (F_8002_42 (px_tb C) x0 x2 x3 σ) _ := hs
  unfold F_8002_42 at hs
  by_cases hc0 : (nI 11) ≤ x3
  · replace hs := oW_t hs hc0
    simp only [↓hG, ↓hJf, ↓px_vc, ↓px_ex, ↓px_jp, ↓px_gi, ↓px_gl, ↓px_gr, ↓px_s1, ↓px_s2, ↓px_nl, ↓px_i1, ↓px_l1, ↓r1_s, ↓px_q1, ↓px_i2, ↓px_l2, ↓px_il, ↓px_d0, ↓px_d1, ↓px_d2, ↓px_pop, ↓px_sp, ↓px_rd, ↓px_rf, ↓pn_xf, ↓px_pt, ↓px_sw, ↓pn_SW, ↓reduceIte, Nat.reduceEqDiff, Nat.reduceAdd, Nat.reduceSub, ↓Option.toList_some, ↓Option.toList_none, ↓List.cons_append, ↓List.nil_append, ↓kI_s, ↓kJ_s, ↓kN_s, ↓kO_s, ↓kZ_s, ↓kE_s, ↓an_rfl, ↓bt1 n00, ↓bt2 n00, ↓bf1 n10, ↓bf2 n10, ↓an_sz0, ↓an_sz1, ↓an_sz2, ↓an_sz3, ↓an_sz4, ↓an_ri, ↓an_rb0, ↓an_rb1, ↓an_b0, ↓an_b1, true_and, ↓ai_0s, ↓al_0s, ↓av_0s, ↓aq_0s, ↓ai_1s, ↓al_1s, ↓av_1s, ↓aq_1s, ↓ai_2s, ↓al_2s, ↓av_2s, ↓aq_2s, ↓ai_3s, ↓al_3s, ↓av_3s, ↓aq_3s, ↓ai_4s, ↓al_4s, ↓av_4s, ↓aq_4s, ↓ai_5s, ↓al_5s, ↓av_5s, ↓aq_5s, ↓ai_6s, ↓al_6s, ↓av_6s, ↓aq_6s, ↓ai_7s, ↓al_7s, ↓av_7s, ↓aq_7s, ↓an_l4, ↓bk_8002, ↓Sg_8003, ↓Sg_8004, ↓Sg_22000, ↓kp_8002_72, ↓kp_8002_74, ↓bt1 hc0, ↓bt2 hc0]
    rw [oW_some] at hs
    exact hs
  · replace hs := oW_f hs hc0
    obtain ⟨hc1, hs⟩ := oW_gx hs
    obtain ⟨n1, hc2, hs⟩ := oW_bx hs
    obtain ⟨q2, hc3, hs⟩ := oW_bx hs
    obtain ⟨r3, hc4, hs⟩ := oW_bx hs
    obtain ⟨q4, hc5, hs⟩ := oW_bx hs
    by_cases hc6 : q4.1 = nI 0
    · replace hs := oW_t hs hc6
      simp only [↓hG, ↓hJf, ↓px_vc, ↓px_ex, ↓px_jp, ↓px_gi, ↓px_gl, ↓px_gr, ↓px_s1, ↓px_s2, ↓px_nl, ↓px_i1, ↓px_l1, ↓r1_s, ↓px_q1, ↓px_i2, ↓px_l2, ↓px_il, ↓px_d0, ↓px_d1, ↓px_d2, ↓px_pop, ↓px_sp, ↓px_rd, ↓px_rf, ↓pn_xf, ↓px_pt, ↓px_sw, ↓pn_SW, ↓reduceIte, Nat.reduceEqDiff, Nat.reduceAdd, Nat.reduceSub, ↓Option.toList_some, ↓Option.toList_none, ↓List.cons_append, ↓List.nil_append, ↓kI_s, ↓kJ_s, ↓kN_s, ↓kO_s, ↓kZ_s, ↓kE_s, ↓an_rfl, ↓bt1 n00, ↓bt2 n00, ↓bf1 n10, ↓bf2 n10, ↓an_sz0, ↓an_sz1, ↓an_sz2, ↓an_sz3, ↓an_sz4, ↓an_ri, ↓an_rb0, ↓an_rb1, ↓an_b0, ↓an_b1, true_and, ↓ai_0s, ↓al_0s, ↓av_0s, ↓aq_0s, ↓ai_1s, ↓al_1s, ↓av_1s, ↓aq_1s, ↓ai_2s, ↓al_2s, ↓av_2s, ↓aq_2s, ↓ai_3s, ↓al_3s, ↓av_3s, ↓aq_3s, ↓ai_4s, ↓al_4s, ↓av_4s, ↓aq_4s, ↓ai_5s, ↓al_5s, ↓av_5s, ↓aq_5s, ↓ai_6s, ↓al_6s, ↓av_6s, ↓aq_6s, ↓ai_7s, ↓al_7s, ↓av_7s, ↓aq_7s, ↓an_l4, ↓bk_8002, ↓Sg_8003, ↓Sg_8004, ↓Sg_22000, ↓kp_8002_72, ↓kp_8002_74, ↓bf1 hc0, ↓bf2 hc0, ↓an_t hc1, ↓an_rv hc1, ↓r1_e hc2, ↓av_0e hc2, ↓av_1e hc2, ↓av_2e hc2, ↓av_3e hc2, ↓oW_e hc3, ↓oW_e hc4, ↓oW_e hc5, ↓bt1 hc6, ↓bt2 hc6]
      exact hs
    · replace hs := oW_f hs hc6
      simp only [↓hG, ↓hJf, ↓px_vc, ↓px_ex, ↓px_jp, ↓px_gi, ↓px_gl, ↓px_gr, ↓px_s1, ↓px_s2, ↓px_nl, ↓px_i1, ↓px_l1, ↓r1_s, ↓px_q1, ↓px_i2, ↓px_l2, ↓px_il, ↓px_d0, ↓px_d1, ↓px_d2, ↓px_pop, ↓px_sp, ↓px_rd, ↓px_rf, ↓pn_xf, ↓px_pt, ↓px_sw, ↓pn_SW, ↓reduceIte, Nat.reduceEqDiff, Nat.reduceAdd, Nat.reduceSub, ↓Option.toList_some, ↓Option.toList_none, ↓List.cons_append, ↓List.nil_append, ↓kI_s, ↓kJ_s, ↓kN_s, ↓kO_s, ↓kZ_s, ↓kE_s, ↓an_rfl, ↓bt1 n00, ↓bt2 n00, ↓bf1 n10, ↓bf2 n10, ↓an_sz0, ↓an_sz1, ↓an_sz2, ↓an_sz3, ↓an_sz4, ↓an_ri, ↓an_rb0, ↓an_rb1, ↓an_b0, ↓an_b1, true_and, ↓ai_0s, ↓al_0s, ↓av_0s, ↓aq_0s, ↓ai_1s, ↓al_1s, ↓av_1s, ↓aq_1s, ↓ai_2s, ↓al_2s, ↓av_2s, ↓aq_2s, ↓ai_3s, ↓al_3s, ↓av_3s, ↓aq_3s, ↓ai_4s, ↓al_4s, ↓av_4s, ↓aq_4s, ↓ai_5s, ↓al_5s, ↓av_5s, ↓aq_5s, ↓ai_6s, ↓al_6s, ↓av_6s, ↓aq_6s, ↓ai_7s, ↓al_7s, ↓av_7s, ↓aq_7s, ↓an_l4, ↓bk_8002, ↓Sg_8003, ↓Sg_8004, ↓Sg_22000, ↓kp_8002_72, ↓kp_8002_74, ↓bf1 hc0, ↓bf2 hc0, ↓an_t hc1, ↓an_rv hc1, ↓r1_e hc2, ↓av_0e hc2, ↓av_1e hc2, ↓av_2e hc2, ↓av_3e hc2, ↓oW_e hc3, ↓oW_e hc4, ↓oW_e hc5, ↓bf1 hc6, ↓bf2 hc6]
      simp only [oW_map] at hs
      exact hs
set_option maxHeartbeats 4000000 in
set_option maxRecDepth 100000 in
theorem rl_8002_40 {C : px_C} (hn : px_nd (px_tb C)) {h : Nat} (hh : 27 ≤ h) (hC : px_ok C pn_i8002 h) {k : Option px_V → px_M → Prop} {x0 : Nat} {x2 : Int32} {σ : px_M} (hs : oW (f_8002_40 (px_tb C) σ x0 x2) (fun q => k (some (.inl q.1)) q.2)) : ∀ (z1 : Option px_V) (z3 : Option px_V), px_W C k 40 [some (.inr (.inr (some x0))), z1, some (.inl x2), z3] [] σ := by
  intro z1 z3
  refine px_runH (h - 1) ck_8002 [] [(42, kp_8002_42 (fun y0 y2 y3 τ => oW (f_8002_42 (px_tb C) y0 y2 y3 τ) (fun q => k (some (.inl q.1)) q.2)))] 80 4 (some .int) rfl rfl hC px_nosp (by omega) (px_cut1 (kq_8002_42 (fun y0 y2 y3 τ hq => by exact rl_8002_42 hn (by omega) hC (y3, τ) hq)) px_nocut) (fun G Jf hG hJf => ?_)
  unfold f_8002_40 at hs
  simp only [↓hG, ↓hJf, ↓px_vc, ↓px_ex, ↓px_jp, ↓px_gi, ↓px_gl, ↓px_gr, ↓px_s1, ↓px_s2, ↓px_nl, ↓px_i1, ↓px_l1, ↓r1_s, ↓px_q1, ↓px_i2, ↓px_l2, ↓px_il, ↓px_d0, ↓px_d1, ↓px_d2, ↓px_pop, ↓px_sp, ↓px_rd, ↓px_rf, ↓pn_xf, ↓px_pt, ↓px_sw, ↓pn_SW, ↓reduceIte, Nat.reduceEqDiff, Nat.reduceAdd, Nat.reduceSub, ↓Option.toList_some, ↓Option.toList_none, ↓List.cons_append, ↓List.nil_append, ↓kI_s, ↓kJ_s, ↓kN_s, ↓kO_s, ↓kZ_s, ↓kE_s, ↓an_rfl, ↓bt1 n00, ↓bt2 n00, ↓bf1 n10, ↓bf2 n10, ↓an_sz0, ↓an_sz1, ↓an_sz2, ↓an_sz3, ↓an_sz4, ↓an_ri, ↓an_rb0, ↓an_rb1, ↓an_b0, ↓an_b1, true_and, ↓ai_0s, ↓al_0s, ↓av_0s, ↓aq_0s, ↓ai_1s, ↓al_1s, ↓av_1s, ↓aq_1s, ↓ai_2s, ↓al_2s, ↓av_2s, ↓aq_2s, ↓ai_3s, ↓al_3s, ↓av_3s, ↓aq_3s, ↓ai_4s, ↓al_4s, ↓av_4s, ↓aq_4s, ↓ai_5s, ↓al_5s, ↓av_5s, ↓aq_5s, ↓ai_6s, ↓al_6s, ↓av_6s, ↓aq_6s, ↓ai_7s, ↓al_7s, ↓av_7s, ↓aq_7s, ↓an_l4, ↓bk_8002, ↓kp_8002_42]
  exact hs
set_option maxHeartbeats 4000000 in
set_option maxRecDepth 100000 in
theorem rl_8002_38 {C : px_C} (hn : px_nd (px_tb C)) {h : Nat} (hh : 27 ≤ h) (hC : px_ok C pn_i8002 h) {k : Option px_V → px_M → Prop} {σ : px_M} (hs : oW (f_8002_38 (px_tb C) σ) (fun q => k (some (.inl q.1)) q.2)) : ∀ (z0 : Option px_V) (z1 : Option px_V) (z2 : Option px_V) (z3 : Option px_V), px_W C k 38 [z0, z1, z2, z3] [] σ := by
  intro z0 z1 z2 z3
  refine px_runH (h - 1) ck_8002 [] [] 80 4 (some .int) rfl rfl hC px_nosp (by omega) px_nocut (fun G Jf hG hJf => ?_)
  unfold f_8002_38 at hs
  simp only [↓hG, ↓hJf, ↓px_vc, ↓px_ex, ↓px_jp, ↓px_gi, ↓px_gl, ↓px_gr, ↓px_s1, ↓px_s2, ↓px_nl, ↓px_i1, ↓px_l1, ↓r1_s, ↓px_q1, ↓px_i2, ↓px_l2, ↓px_il, ↓px_d0, ↓px_d1, ↓px_d2, ↓px_pop, ↓px_sp, ↓px_rd, ↓px_rf, ↓pn_xf, ↓px_pt, ↓px_sw, ↓pn_SW, ↓reduceIte, Nat.reduceEqDiff, Nat.reduceAdd, Nat.reduceSub, ↓Option.toList_some, ↓Option.toList_none, ↓List.cons_append, ↓List.nil_append, ↓kI_s, ↓kJ_s, ↓kN_s, ↓kO_s, ↓kZ_s, ↓kE_s, ↓an_rfl, ↓bt1 n00, ↓bt2 n00, ↓bf1 n10, ↓bf2 n10, ↓an_sz0, ↓an_sz1, ↓an_sz2, ↓an_sz3, ↓an_sz4, ↓an_ri, ↓an_rb0, ↓an_rb1, ↓an_b0, ↓an_b1, true_and, ↓ai_0s, ↓al_0s, ↓av_0s, ↓aq_0s, ↓ai_1s, ↓al_1s, ↓av_1s, ↓aq_1s, ↓ai_2s, ↓al_2s, ↓av_2s, ↓aq_2s, ↓ai_3s, ↓al_3s, ↓av_3s, ↓aq_3s, ↓ai_4s, ↓al_4s, ↓av_4s, ↓aq_4s, ↓ai_5s, ↓al_5s, ↓av_5s, ↓aq_5s, ↓ai_6s, ↓al_6s, ↓av_6s, ↓aq_6s, ↓ai_7s, ↓al_7s, ↓av_7s, ↓aq_7s, ↓an_l4, ↓bk_8002]
  rw [oW_some] at hs
  exact hs
set_option maxHeartbeats 4000000 in
set_option maxRecDepth 100000 in
theorem mf_8002 {tab : px_T} (hn : px_nd tab) {h : Nat} (hh : 27 ≤ h) : px_Ok tab pn_i8002 h (Sg_8002 (f_8002 tab)) := by
  refine px_mth hn (by decide +kernel) (fun av σ k hS => ?_) (fun C hT hC av σ k hS => ?_)
  · obtain ⟨x0, av0, e0, h0⟩ := av_0p hS
    obtain ⟨x1, av1, e1, h1⟩ := av_1p h0
    obtain ⟨x2, av2, e2, h2⟩ := ai_2p h1
    obtain ⟨ez, hs⟩ := h2
    subst ez
    subst e2
    subst e1
    subst e0
    exact Nat.le_of_ble_eq_true rfl
  · obtain ⟨x0, av0, e0, h0⟩ := av_0p hS
    obtain ⟨x1, av1, e1, h1⟩ := av_1p h0
    obtain ⟨x2, av2, e2, h2⟩ := ai_2p h1
    obtain ⟨ez, hs⟩ := h2
    subst ez
    subst e2
    subst e1
    subst e0
    subst hT
    show px_W C k 0 [some (.inr (.inr (some x0))), some (.inr (.inr (some x1))), some (.inl x2), none] [] σ
    refine px_runH (h - 1) ck_8002 [(11016, Sg_11016 (f_11016 (px_tb C))), (11031, Sg_11031 (f_11031 (px_tb C)))] [(38, kp_8002_38 (fun τ => oW (f_8002_38 (px_tb C) τ) (fun q => k (some (.inl q.1)) q.2))), (40, kp_8002_40 (fun y0 y2 τ => oW (f_8002_40 (px_tb C) τ y0 y2) (fun q => k (some (.inl q.1)) q.2)))] 80 4 (some .int) rfl rfl hC (px_sp1 (mf_11016 hn (by omega)) (px_sp1 (mf_11031 hn (by omega)) px_nosp)) (by omega) (px_cut1 (kq_8002_38 (fun τ hq => by exact rl_8002_38 hn (by omega) hC  hq)) (px_cut1 (kq_8002_40 (fun y0 y2 τ hq => by exact rl_8002_40 hn (by omega) hC  hq)) px_nocut)) (fun G Jf hG hJf => ?_)
    unfold f_8002 at hs
    obtain ⟨hc0, hs⟩ := oW_gx hs
    by_cases hc1 : x2 = nI 0
    · replace hs := bW_t hs hc1
      simp only [↓hG, ↓hJf, ↓px_vc, ↓px_ex, ↓px_jp, ↓px_gi, ↓px_gl, ↓px_gr, ↓px_s1, ↓px_s2, ↓px_nl, ↓px_i1, ↓px_l1, ↓r1_s, ↓px_q1, ↓px_i2, ↓px_l2, ↓px_il, ↓px_d0, ↓px_d1, ↓px_d2, ↓px_pop, ↓px_sp, ↓px_rd, ↓px_rf, ↓pn_xf, ↓px_pt, ↓px_sw, ↓pn_SW, ↓reduceIte, Nat.reduceEqDiff, Nat.reduceAdd, Nat.reduceSub, ↓Option.toList_some, ↓Option.toList_none, ↓List.cons_append, ↓List.nil_append, ↓kI_s, ↓kJ_s, ↓kN_s, ↓kO_s, ↓kZ_s, ↓kE_s, ↓an_rfl, ↓bt1 n00, ↓bt2 n00, ↓bf1 n10, ↓bf2 n10, ↓an_sz0, ↓an_sz1, ↓an_sz2, ↓an_sz3, ↓an_sz4, ↓an_ri, ↓an_rb0, ↓an_rb1, ↓an_b0, ↓an_b1, true_and, ↓ai_0s, ↓al_0s, ↓av_0s, ↓aq_0s, ↓ai_1s, ↓al_1s, ↓av_1s, ↓aq_1s, ↓ai_2s, ↓al_2s, ↓av_2s, ↓aq_2s, ↓ai_3s, ↓al_3s, ↓av_3s, ↓aq_3s, ↓ai_4s, ↓al_4s, ↓av_4s, ↓aq_4s, ↓ai_5s, ↓al_5s, ↓av_5s, ↓aq_5s, ↓ai_6s, ↓al_6s, ↓av_6s, ↓aq_6s, ↓ai_7s, ↓al_7s, ↓av_7s, ↓aq_7s, ↓an_l4, ↓bk_8002, ↓Sg_11016, ↓Sg_11031, ↓kp_8002_38, ↓kp_8002_40, ↓an_t hc0, ↓an_rv hc0, ↓bt1 hc1, ↓bt2 hc1]
      rw [oW_some] at hs
      exact hs
    · replace hs := bW_f hs hc1
      obtain ⟨n1, hc2, hs⟩ := oW_bx hs
      obtain ⟨hc3, hs⟩ := oW_gx hs
      obtain ⟨r2, hc4, hs⟩ := oW_bx hs
      by_cases hc5 : (r2 &&& x2) = nI 0
      · replace hs := bW_t hs hc5
        simp only [↓hG, ↓hJf, ↓px_vc, ↓px_ex, ↓px_jp, ↓px_gi, ↓px_gl, ↓px_gr, ↓px_s1, ↓px_s2, ↓px_nl, ↓px_i1, ↓px_l1, ↓r1_s, ↓px_q1, ↓px_i2, ↓px_l2, ↓px_il, ↓px_d0, ↓px_d1, ↓px_d2, ↓px_pop, ↓px_sp, ↓px_rd, ↓px_rf, ↓pn_xf, ↓px_pt, ↓px_sw, ↓pn_SW, ↓reduceIte, Nat.reduceEqDiff, Nat.reduceAdd, Nat.reduceSub, ↓Option.toList_some, ↓Option.toList_none, ↓List.cons_append, ↓List.nil_append, ↓kI_s, ↓kJ_s, ↓kN_s, ↓kO_s, ↓kZ_s, ↓kE_s, ↓an_rfl, ↓bt1 n00, ↓bt2 n00, ↓bf1 n10, ↓bf2 n10, ↓an_sz0, ↓an_sz1, ↓an_sz2, ↓an_sz3, ↓an_sz4, ↓an_ri, ↓an_rb0, ↓an_rb1, ↓an_b0, ↓an_b1, true_and, ↓ai_0s, ↓al_0s, ↓av_0s, ↓aq_0s, ↓ai_1s, ↓al_1s, ↓av_1s, ↓aq_1s, ↓ai_2s, ↓al_2s, ↓av_2s, ↓aq_2s, ↓ai_3s, ↓al_3s, ↓av_3s, ↓aq_3s, ↓ai_4s, ↓al_4s, ↓av_4s, ↓aq_4s, ↓ai_5s, ↓al_5s, ↓av_5s, ↓aq_5s, ↓ai_6s, ↓al_6s, ↓av_6s, ↓aq_6s, ↓ai_7s, ↓al_7s, ↓av_7s, ↓aq_7s, ↓an_l4, ↓bk_8002, ↓Sg_11016, ↓Sg_11031, ↓kp_8002_38, ↓kp_8002_40, ↓an_t hc0, ↓an_rv hc0, ↓bf1 hc1, ↓bf2 hc1, ↓r1_e hc2, ↓av_0e hc2, ↓av_1e hc2, ↓av_2e hc2, ↓av_3e hc2, ↓an_t hc3, ↓an_rv hc3, ↓an_rvo hc2 hc3, ↓oW_e hc4, ↓bt1 hc5, ↓bt2 hc5]
        rw [oW_some] at hs
        exact hs
      · replace hs := bW_f hs hc5
        obtain ⟨r3, hc6, hs⟩ := oW_bx hs
        by_cases hc7 : r3 = (-1)
        · replace hs := oW_t hs hc7
          simp only [↓hG, ↓hJf, ↓px_vc, ↓px_ex, ↓px_jp, ↓px_gi, ↓px_gl, ↓px_gr, ↓px_s1, ↓px_s2, ↓px_nl, ↓px_i1, ↓px_l1, ↓r1_s, ↓px_q1, ↓px_i2, ↓px_l2, ↓px_il, ↓px_d0, ↓px_d1, ↓px_d2, ↓px_pop, ↓px_sp, ↓px_rd, ↓px_rf, ↓pn_xf, ↓px_pt, ↓px_sw, ↓pn_SW, ↓reduceIte, Nat.reduceEqDiff, Nat.reduceAdd, Nat.reduceSub, ↓Option.toList_some, ↓Option.toList_none, ↓List.cons_append, ↓List.nil_append, ↓kI_s, ↓kJ_s, ↓kN_s, ↓kO_s, ↓kZ_s, ↓kE_s, ↓an_rfl, ↓bt1 n00, ↓bt2 n00, ↓bf1 n10, ↓bf2 n10, ↓an_sz0, ↓an_sz1, ↓an_sz2, ↓an_sz3, ↓an_sz4, ↓an_ri, ↓an_rb0, ↓an_rb1, ↓an_b0, ↓an_b1, true_and, ↓ai_0s, ↓al_0s, ↓av_0s, ↓aq_0s, ↓ai_1s, ↓al_1s, ↓av_1s, ↓aq_1s, ↓ai_2s, ↓al_2s, ↓av_2s, ↓aq_2s, ↓ai_3s, ↓al_3s, ↓av_3s, ↓aq_3s, ↓ai_4s, ↓al_4s, ↓av_4s, ↓aq_4s, ↓ai_5s, ↓al_5s, ↓av_5s, ↓aq_5s, ↓ai_6s, ↓al_6s, ↓av_6s, ↓aq_6s, ↓ai_7s, ↓al_7s, ↓av_7s, ↓aq_7s, ↓an_l4, ↓bk_8002, ↓Sg_11016, ↓Sg_11031, ↓kp_8002_38, ↓kp_8002_40, ↓an_t hc0, ↓an_rv hc0, ↓bf1 hc1, ↓bf2 hc1, ↓r1_e hc2, ↓av_0e hc2, ↓av_1e hc2, ↓av_2e hc2, ↓av_3e hc2, ↓an_t hc3, ↓an_rv hc3, ↓an_rvo hc2 hc3, ↓oW_e hc4, ↓bf1 hc5, ↓bf2 hc5, ↓oW_e hc6, ↓bt1 hc7, ↓bt2 hc7]
          exact hs
        · replace hs := oW_f hs hc7
          simp only [↓hG, ↓hJf, ↓px_vc, ↓px_ex, ↓px_jp, ↓px_gi, ↓px_gl, ↓px_gr, ↓px_s1, ↓px_s2, ↓px_nl, ↓px_i1, ↓px_l1, ↓r1_s, ↓px_q1, ↓px_i2, ↓px_l2, ↓px_il, ↓px_d0, ↓px_d1, ↓px_d2, ↓px_pop, ↓px_sp, ↓px_rd, ↓px_rf, ↓pn_xf, ↓px_pt, ↓px_sw, ↓pn_SW, ↓reduceIte, Nat.reduceEqDiff, Nat.reduceAdd, Nat.reduceSub, ↓Option.toList_some, ↓Option.toList_none, ↓List.cons_append, ↓List.nil_append, ↓kI_s, ↓kJ_s, ↓kN_s, ↓kO_s, ↓kZ_s, ↓kE_s, ↓an_rfl, ↓bt1 n00, ↓bt2 n00, ↓bf1 n10, ↓bf2 n10, ↓an_sz0, ↓an_sz1, ↓an_sz2, ↓an_sz3, ↓an_sz4, ↓an_ri, ↓an_rb0, ↓an_rb1, ↓an_b0, ↓an_b1, true_and, ↓ai_0s, ↓al_0s, ↓av_0s, ↓aq_0s, ↓ai_1s, ↓al_1s, ↓av_1s, ↓aq_1s, ↓ai_2s, ↓al_2s, ↓av_2s, ↓aq_2s, ↓ai_3s, ↓al_3s, ↓av_3s, ↓aq_3s, ↓ai_4s, ↓al_4s, ↓av_4s, ↓aq_4s, ↓ai_5s, ↓al_5s, ↓av_5s, ↓aq_5s, ↓ai_6s, ↓al_6s, ↓av_6s, ↓aq_6s, ↓ai_7s, ↓al_7s, ↓av_7s, ↓aq_7s, ↓an_l4, ↓bk_8002, ↓Sg_11016, ↓Sg_11031, ↓kp_8002_38, ↓kp_8002_40, ↓an_t hc0, ↓an_rv hc0, ↓bf1 hc1, ↓bf2 hc1, ↓r1_e hc2, ↓av_0e hc2, ↓av_1e hc2, ↓av_2e hc2, ↓av_3e hc2, ↓an_t hc3, ↓an_rv hc3, ↓an_rvo hc2 hc3, ↓oW_e hc4, ↓bf1 hc5, ↓bf2 hc5, ↓oW_e hc6, ↓bf1 hc7, ↓bf2 hc7]
          exact hs
