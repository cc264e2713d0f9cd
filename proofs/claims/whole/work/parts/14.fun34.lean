/-! shallow functions, printed by wip/whole/decomp.py -/
def Sg_2010 (g : px_M → Nat → Int32 → Option (px_M)) : px_S := fun av σ k => av_0 av (fun x0 av => ai_1 av (fun x1 av => av = [] ∧ oW (g σ x0 x1) (fun τ => k none τ)))
/-- NoThree$Council.findMeanings(I)V -/
noncomputable def f_2010_242 (tab : px_T) (σ : px_M) (x0 : Nat) (x2 : Int32) (x3 : Int32) : Option ((Int32 × px_M) ⊕ (px_M)) := some (.inl (((x3 + (nI 1)), σ)))
noncomputable def f_2010_236 (tab : px_T) (σ : px_M) (x0 : Nat) (x2 : Int32) (x3 : Int32) (x4 : Int32) (x5 : Int32) : Option ((Int32 × px_M) ⊕ ((Int32 × px_M) ⊕ (px_M))) := some (.inl (((x5 + (nI 1)), σ)))
noncomputable def F_2010_203 (tab : px_T) (x0 : Nat) (x2 : Int32) (x3 : Int32) (x4 : Int32) (x5 : Int32) (σ : px_M) : Option ((Int32 × px_M) ⊕ ((Int32 × px_M) ⊕ (px_M))) := gd (px_obj (px_lay tab x0) 2) ((((σ).2.2 x0 7)).bind fun n1 => gd (px_obj (px_lay tab n1) 11) (if ((σ).1 n1 0) ≤ x5 then (Option.map Sum.inr (f_2010_242 tab σ x0 x2 x3)) else ((f_2011 tab σ x0 (((nI 1000) + x3)) x5).bind fun r2 => (((σ).2.2 x0 4)).bind fun n3 => oA (px_lay tab n3) fun t4 l5 => gd (t4 = 0) (gd (vp_in (x4 + x5) l5) (f_2010_236 tab ((px_wi σ n3 ((x4 + x5)).toNatClampNeg r2)) x0 x2 x3 x4 x5)))))
noncomputable def f_2010_203 (tab : px_T) (x0 : Nat) (x2 : Int32) (x3 : Int32) (x4 : Int32) (x5 : Int32) (σ : px_M) : Option ((Int32 × px_M) ⊕ (px_M)) := lpO (fun s : Int32 × px_M => F_2010_203 tab x0 x2 x3 x4 s.1 s.2) (x5, σ)
theorem f_2010_203_eq (tab : px_T) (x0 : Nat) (x2 : Int32) (x3 : Int32) (x4 : Int32) (x5 : Int32) (σ : px_M) : f_2010_203 tab x0 x2 x3 x4 x5 σ = (F_2010_203 tab x0 x2 x3 x4 x5 σ).bind (Sum.elim (fun s => f_2010_203 tab x0 x2 x3 x4 s.1 s.2) some) := lpO_eq _ _
noncomputable def f_2010_48 (tab : px_T) (σ : px_M) (x0 : Nat) (x2 : Int32) (x3 : Int32) (x4 : Int32) : Option ((Int32 × px_M) ⊕ (px_M)) := if ((nI 1000) + x3) = nI 1004 then (gd (px_obj (px_lay tab x0) 2) ((((σ).2.2 x0 7)).bind fun n1 => gd (px_obj (px_lay tab n1) 11) ((((σ).2.2 x0 4)).bind fun n2 => oA (px_lay tab n2) fun t3 l4 => gd (t3 = 0) (gd (vp_in x4 l4) (f_2010_242 tab ((px_wi σ n2 (x4).toNatClampNeg ((σ).1 n1 0))) x0 x2 x3))))) else (if ((nI 1000) + x3) = nI 1005 then (gd (px_obj (px_lay tab x0) 2) ((((σ).2.2 x0 7)).bind fun n5 => gd (px_obj (px_lay tab n5) 11) ((f_11015 tab σ n5).bind fun r6 => (((σ).2.2 x0 4)).bind fun n7 => oA (px_lay tab n7) fun t8 l9 => gd (t8 = 0) (gd (vp_in x4 l9) (f_2010_242 tab ((px_wi σ n7 (x4).toNatClampNeg r6)) x0 x2 x3))))) else (if ((nI 1000) + x3) = nI 1006 then (gd (px_obj (px_lay tab x0) 2) ((((σ).2.2 x0 7)).bind fun n11 => (f_3008 tab σ n11).bind fun r12 => (((σ).2.2 x0 4)).bind fun n13 => oA (px_lay tab n13) fun t14 l15 => gd (t14 = 0) (gd (vp_in x4 l15) (f_2010_242 tab ((px_wi σ n13 (x4).toNatClampNeg r12)) x0 x2 x3)))) else (if ((nI 1000) + x3) = nI 1007 then (gd (px_obj (px_lay tab x0) 2) ((((σ).2.2 x0 7)).bind fun n16 => gd (px_obj (px_lay tab n16) 11) ((f_11004 tab σ n16).bind fun r17 => (((σ).2.2 x0 0)).bind fun n18 => gd (px_obj (px_lay tab n18) 8) ((f_8002 tab σ n18 n16 r17).bind fun q19 => (((σ).2.2 x0 4)).bind fun n20 => oA (px_lay tab n20) fun t21 l22 => gd (t21 = 0) (gd (vp_in x4 l22) (f_2010_242 tab ((px_wi q19.2 n20 (x4).toNatClampNeg q19.1)) x0 x2 x3)))))) else (if ((nI 1000) + x3) = nI 1008 then (gd (px_obj (px_lay tab x0) 2) ((((σ).2.2 x0 7)).bind fun n23 => gd (px_obj (px_lay tab n23) 11) ((f_11004 tab σ n23).bind fun r24 => (f_11031 tab σ n23 r24).bind fun r25 => bn (r25 = (-1)) ((((σ).2.2 x0 4)).bind fun n29 => oA (px_lay tab n29) fun t30 l31 => gd (t30 = 0) (gd (vp_in x4 l31) (f_2010_242 tab ((px_wi σ n29 (x4).toNatClampNeg (nI 1))) x0 x2 x3))) ((((σ).2.2 x0 4)).bind fun n26 => oA (px_lay tab n26) fun t27 l28 => gd (t27 = 0) (gd (vp_in x4 l28) (f_2010_242 tab ((px_wi σ n26 (x4).toNatClampNeg (nI 0))) x0 x2 x3)))))) else (f_2010_203 tab x0 x2 x3 x4 ((nI 0)) σ)))))
noncomputable def f_2010_42 (tab : px_T) (σ : px_M) (x0 : Nat) (x2 : Int32) (x3 : Int32) : Option ((Int32 × px_M) ⊕ (px_M)) := f_2010_48 tab σ x0 x2 x3 ((x3 * (nI 11)))
noncomputable def F_2010_21 (tab : px_T) (x0 : Nat) (x2 : Int32) (x3 : Int32) (σ : px_M) : Option ((Int32 × px_M) ⊕ (px_M)) := if (nI 9) ≤ x3 then (some (.inr (σ))) else (if x2 = nI 0 then (some (.inr (σ))) else (bn ((x2 &&& ((nI 1) <<< (x3 &&& 31))) = nI 0) (f_2010_42 tab σ x0 x2 x3) (f_2010_242 tab σ x0 x2 x3)))
noncomputable def f_2010_21 (tab : px_T) (x0 : Nat) (x2 : Int32) (x3 : Int32) (σ : px_M) : Option (px_M) := lpO (fun s : Int32 × px_M => F_2010_21 tab x0 x2 s.1 s.2) (x3, σ)
theorem f_2010_21_eq (tab : px_T) (x0 : Nat) (x2 : Int32) (x3 : Int32) (σ : px_M) : f_2010_21 tab x0 x2 x3 σ = (F_2010_21 tab x0 x2 x3 σ).bind (Sum.elim (fun s => f_2010_21 tab x0 x2 s.1 s.2) some) := lpO_eq _ _
noncomputable def f_2010_9 (tab : px_T) (σ : px_M) (x0 : Nat) (x1 : Int32) (x2 : Int32) : Option (px_M) := gd (px_obj (px_lay tab x0) 2) (f_2010_21 tab x0 x2 ((nI 0)) ((px_wi σ x0 8 (((σ).1 x0 8) ||| x1))))
noncomputable def f_2010 (tab : px_T) (σ : px_M) (x0 : Nat) (x1 : Int32) : Option (px_M) := gd (px_obj (px_lay tab x0) 2) (f_2010_9 tab σ x0 x1 ((x1 &&& (((σ).1 x0 8) ^^^ (-1)))))
def kp_2010_242 (Q : Nat → Int32 → Int32 → px_M → Prop) : px_P := fun ls st τ => st = [] ∧ kN ls (fun x0 ls => kZ ls (fun ls => kI ls (fun x2 ls => kI ls (fun x3 ls => kZ ls (fun ls => kZ ls (fun ls => kE ls (Q x0 x2 x3 τ)))))))
theorem kq_2010_242 {C : px_C} {k : Option px_V → px_M → Prop} {Q : Nat → Int32 → Int32 → px_M → Prop} (H : ∀ (x0 : Nat) (x2 : Int32) (x3 : Int32) (τ : px_M), Q x0 x2 x3 τ → ∀ (z1 : Option px_V) (z4 : Option px_V) (z5 : Option px_V), px_W C k 242 [some (.inr (.inr (some x0))), z1, some (.inl x2), some (.inl x3), z4, z5] [] τ) : ∀ ls st τ, kp_2010_242 Q ls st τ → px_W C k 242 ls st τ := by
  intro ls st τ hz
  obtain ⟨ez, h0⟩ := hz
  obtain ⟨x0, l0, e0, h1⟩ := kN_sp h0
  obtain ⟨z1, l1, e1, h2⟩ := kZ_sp h1
  obtain ⟨x2, l2, e2, h3⟩ := kI_sp h2
  obtain ⟨x3, l3, e3, h4⟩ := kI_sp h3
  obtain ⟨z4, l4, e4, h5⟩ := kZ_sp h4
  obtain ⟨z5, l5, e5, h6⟩ := kZ_sp h5
  obtain ⟨ey, hy⟩ := kE_sp h6
  subst ez
  subst ey
  subst e5
  subst e4
  subst e3
  subst e2
  subst e1
  subst e0
  exact H x0 x2 x3 τ hy z1 z4 z5
def kp_2010_236 (Q : Nat → Int32 → Int32 → Int32 → Int32 → px_M → Prop) : px_P := fun ls st τ => st = [] ∧ kN ls (fun x0 ls => kZ ls (fun ls => kI ls (fun x2 ls => kI ls (fun x3 ls => kI ls (fun x4 ls => kI ls (fun x5 ls => kE ls (Q x0 x2 x3 x4 x5 τ)))))))
theorem kq_2010_236 {C : px_C} {k : Option px_V → px_M → Prop} {Q : Nat → Int32 → Int32 → Int32 → Int32 → px_M → Prop} (H : ∀ (x0 : Nat) (x2 : Int32) (x3 : Int32) (x4 : Int32) (x5 : Int32) (τ : px_M), Q x0 x2 x3 x4 x5 τ → ∀ (z1 : Option px_V), px_W C k 236 [some (.inr (.inr (some x0))), z1, some (.inl x2), some (.inl x3), some (.inl x4), some (.inl x5)] [] τ) : ∀ ls st τ, kp_2010_236 Q ls st τ → px_W C k 236 ls st τ := by
  intro ls st τ hz
  obtain ⟨ez, h0⟩ := hz
  obtain ⟨x0, l0, e0, h1⟩ := kN_sp h0
  obtain ⟨z1, l1, e1, h2⟩ := kZ_sp h1
  obtain ⟨x2, l2, e2, h3⟩ := kI_sp h2
  obtain ⟨x3, l3, e3, h4⟩ := kI_sp h3
  obtain ⟨x4, l4, e4, h5⟩ := kI_sp h4
  obtain ⟨x5, l5, e5, h6⟩ := kI_sp h5
  obtain ⟨ey, hy⟩ := kE_sp h6
  subst ez
  subst ey
  subst e5
  subst e4
  subst e3
  subst e2
  subst e1
  subst e0
  exact H x0 x2 x3 x4 x5 τ hy z1
def kp_2010_203 (Q : Nat → Int32 → Int32 → Int32 → Int32 → px_M → Prop) : px_P := fun ls st τ => st = [] ∧ kN ls (fun x0 ls => kZ ls (fun ls => kI ls (fun x2 ls => kI ls (fun x3 ls => kI ls (fun x4 ls => kI ls (fun x5 ls => kE ls (Q x0 x2 x3 x4 x5 τ)))))))
theorem kq_2010_203 {C : px_C} {k : Option px_V → px_M → Prop} {Q : Nat → Int32 → Int32 → Int32 → Int32 → px_M → Prop} (H : ∀ (x0 : Nat) (x2 : Int32) (x3 : Int32) (x4 : Int32) (x5 : Int32) (τ : px_M), Q x0 x2 x3 x4 x5 τ → ∀ (z1 : Option px_V), px_W C k 203 [some (.inr (.inr (some x0))), z1, some (.inl x2), some (.inl x3), some (.inl x4), some (.inl x5)] [] τ) : ∀ ls st τ, kp_2010_203 Q ls st τ → px_W C k 203 ls st τ := by
  intro ls st τ hz
  obtain ⟨ez, h0⟩ := hz
  obtain ⟨x0, l0, e0, h1⟩ := kN_sp h0
  obtain ⟨z1, l1, e1, h2⟩ := kZ_sp h1
  obtain ⟨x2, l2, e2, h3⟩ := kI_sp h2
  obtain ⟨x3, l3, e3, h4⟩ := kI_sp h3
  obtain ⟨x4, l4, e4, h5⟩ := kI_sp h4
  obtain ⟨x5, l5, e5, h6⟩ := kI_sp h5
  obtain ⟨ey, hy⟩ := kE_sp h6
  subst ez
  subst ey
  subst e5
  subst e4
  subst e3
  subst e2
  subst e1
  subst e0
  exact H x0 x2 x3 x4 x5 τ hy z1
def kp_2010_48 (Q : Nat → Int32 → Int32 → Int32 → px_M → Prop) : px_P := fun ls st τ => st = [] ∧ kN ls (fun x0 ls => kZ ls (fun ls => kI ls (fun x2 ls => kI ls (fun x3 ls => kI ls (fun x4 ls => kZ ls (fun ls => kE ls (Q x0 x2 x3 x4 τ)))))))
theorem kq_2010_48 {C : px_C} {k : Option px_V → px_M → Prop} {Q : Nat → Int32 → Int32 → Int32 → px_M → Prop} (H : ∀ (x0 : Nat) (x2 : Int32) (x3 : Int32) (x4 : Int32) (τ : px_M), Q x0 x2 x3 x4 τ → ∀ (z1 : Option px_V) (z5 : Option px_V), px_W C k 48 [some (.inr (.inr (some x0))), z1, some (.inl x2), some (.inl x3), some (.inl x4), z5] [] τ) : ∀ ls st τ, kp_2010_48 Q ls st τ → px_W C k 48 ls st τ := by
  intro ls st τ hz
  obtain ⟨ez, h0⟩ := hz
  obtain ⟨x0, l0, e0, h1⟩ := kN_sp h0
  obtain ⟨z1, l1, e1, h2⟩ := kZ_sp h1
  obtain ⟨x2, l2, e2, h3⟩ := kI_sp h2
  obtain ⟨x3, l3, e3, h4⟩ := kI_sp h3
  obtain ⟨x4, l4, e4, h5⟩ := kI_sp h4
  obtain ⟨z5, l5, e5, h6⟩ := kZ_sp h5
  obtain ⟨ey, hy⟩ := kE_sp h6
  subst ez
  subst ey
  subst e5
  subst e4
  subst e3
  subst e2
  subst e1
  subst e0
  exact H x0 x2 x3 x4 τ hy z1 z5
def kp_2010_42 (Q : Nat → Int32 → Int32 → px_M → Prop) : px_P := fun ls st τ => st = [] ∧ kN ls (fun x0 ls => kZ ls (fun ls => kI ls (fun x2 ls => kI ls (fun x3 ls => kZ ls (fun ls => kZ ls (fun ls => kE ls (Q x0 x2 x3 τ)))))))
theorem kq_2010_42 {C : px_C} {k : Option px_V → px_M → Prop} {Q : Nat → Int32 → Int32 → px_M → Prop} (H : ∀ (x0 : Nat) (x2 : Int32) (x3 : Int32) (τ : px_M), Q x0 x2 x3 τ → ∀ (z1 : Option px_V) (z4 : Option px_V) (z5 : Option px_V), px_W C k 42 [some (.inr (.inr (some x0))), z1, some (.inl x2), some (.inl x3), z4, z5] [] τ) : ∀ ls st τ, kp_2010_42 Q ls st τ → px_W C k 42 ls st τ := by
  intro ls st τ hz
  obtain ⟨ez, h0⟩ := hz
  obtain ⟨x0, l0, e0, h1⟩ := kN_sp h0
  obtain ⟨z1, l1, e1, h2⟩ := kZ_sp h1
  obtain ⟨x2, l2, e2, h3⟩ := kI_sp h2
  obtain ⟨x3, l3, e3, h4⟩ := kI_sp h3
  obtain ⟨z4, l4, e4, h5⟩ := kZ_sp h4
  obtain ⟨z5, l5, e5, h6⟩ := kZ_sp h5
  obtain ⟨ey, hy⟩ := kE_sp h6
  subst ez
  subst ey
  subst e5
  subst e4
  subst e3
  subst e2
  subst e1
  subst e0
  exact H x0 x2 x3 τ hy z1 z4 z5
def kp_2010_21 (Q : Nat → Int32 → Int32 → px_M → Prop) : px_P := fun ls st τ => st = [] ∧ kN ls (fun x0 ls => kZ ls (fun ls => kI ls (fun x2 ls => kI ls (fun x3 ls => kZ ls (fun ls => kZ ls (fun ls => kE ls (Q x0 x2 x3 τ)))))))
theorem kq_2010_21 {C : px_C} {k : Option px_V → px_M → Prop} {Q : Nat → Int32 → Int32 → px_M → Prop} (H : ∀ (x0 : Nat) (x2 : Int32) (x3 : Int32) (τ : px_M), Q x0 x2 x3 τ → ∀ (z1 : Option px_V) (z4 : Option px_V) (z5 : Option px_V), px_W C k 21 [some (.inr (.inr (some x0))), z1, some (.inl x2), some (.inl x3), z4, z5] [] τ) : ∀ ls st τ, kp_2010_21 Q ls st τ → px_W C k 21 ls st τ := by
  intro ls st τ hz
  obtain ⟨ez, h0⟩ := hz
  obtain ⟨x0, l0, e0, h1⟩ := kN_sp h0
  obtain ⟨z1, l1, e1, h2⟩ := kZ_sp h1
  obtain ⟨x2, l2, e2, h3⟩ := kI_sp h2
  obtain ⟨x3, l3, e3, h4⟩ := kI_sp h3
  obtain ⟨z4, l4, e4, h5⟩ := kZ_sp h4
  obtain ⟨z5, l5, e5, h6⟩ := kZ_sp h5
  obtain ⟨ey, hy⟩ := kE_sp h6
  subst ez
  subst ey
  subst e5
  subst e4
  subst e3
  subst e2
  subst e1
  subst e0
  exact H x0 x2 x3 τ hy z1 z4 z5
def kp_2010_9 (Q : Nat → Int32 → Int32 → px_M → Prop) : px_P := fun ls st τ => st = [] ∧ kN ls (fun x0 ls => kI ls (fun x1 ls => kI ls (fun x2 ls => kZ ls (fun ls => kZ ls (fun ls => kZ ls (fun ls => kE ls (Q x0 x1 x2 τ)))))))
theorem kq_2010_9 {C : px_C} {k : Option px_V → px_M → Prop} {Q : Nat → Int32 → Int32 → px_M → Prop} (H : ∀ (x0 : Nat) (x1 : Int32) (x2 : Int32) (τ : px_M), Q x0 x1 x2 τ → ∀ (z3 : Option px_V) (z4 : Option px_V) (z5 : Option px_V), px_W C k 9 [some (.inr (.inr (some x0))), some (.inl x1), some (.inl x2), z3, z4, z5] [] τ) : ∀ ls st τ, kp_2010_9 Q ls st τ → px_W C k 9 ls st τ := by
  intro ls st τ hz
  obtain ⟨ez, h0⟩ := hz
  obtain ⟨x0, l0, e0, h1⟩ := kN_sp h0
  obtain ⟨x1, l1, e1, h2⟩ := kI_sp h1
  obtain ⟨x2, l2, e2, h3⟩ := kI_sp h2
  obtain ⟨z3, l3, e3, h4⟩ := kZ_sp h3
  obtain ⟨z4, l4, e4, h5⟩ := kZ_sp h4
  obtain ⟨z5, l5, e5, h6⟩ := kZ_sp h5
  obtain ⟨ey, hy⟩ := kE_sp h6
  subst ez
  subst ey
  subst e5
  subst e4
  subst e3
  subst e2
  subst e1
  subst e0
  exact H x0 x1 x2 τ hy z3 z4 z5
set_option maxHeartbeats 4000000 in
set_option maxRecDepth 100000 in
theorem rl_2010_242 {C : px_C} (hn : px_nd (px_tb C)) {h : Nat} (hh : 28 ≤ h) (hC : px_ok C pn_i2010 h) {k : Option px_V → px_M → Prop} {x0 : Nat} {x2 : Int32} {x3 : Int32} {σ : px_M} (hs : oW (f_2010_242 (px_tb C) σ x0 x2 x3) (Sum.elim (fun s : Int32 × px_M => ∀ (z1 : Option px_V) (z4 : Option px_V) (z5 : Option px_V), px_W C k 21 [some (.inr (.inr (some x0))), z1, some (.inl x2), some (.inl s.1), z4, z5] [] s.2) (fun τ => k none τ))) : ∀ (z1 : Option px_V) (z4 : Option px_V) (z5 : Option px_V), px_W C k 242 [some (.inr (.inr (some x0))), z1, some (.inl x2), some (.inl x3), z4, z5] [] σ := by
  intro z1 z4 z5
  refine px_runH (h - 1) ck_2010 [] [(21, kp_2010_21 (fun y0 y2 y3 τ => y0 = x0 ∧ y2 = x2 ∧ (fun s : Int32 × px_M => ∀ (z1 : Option px_V) (z4 : Option px_V) (z5 : Option px_V), px_W C k 21 [some (.inr (.inr (some x0))), z1, some (.inl x2), some (.inl s.1), z4, z5] [] s.2) (y3, τ)))] 80 6 none rfl rfl hC px_nosp (by omega) (px_cut1 (kq_2010_21 (fun y0 y2 y3 τ hq => by obtain ⟨rfl, rfl, hq⟩ := hq; exact hq)) px_nocut) (fun G Jf hG hJf => ?_)
  unfold f_2010_242 at hs
  simp only [↓hG, ↓hJf, ↓px_vc, ↓px_ex, ↓px_jp, ↓px_gi, ↓px_gl, ↓px_gr, ↓px_s1, ↓px_s2, ↓px_nl, ↓px_i1, ↓px_l1, ↓r1_s, ↓px_q1, ↓px_i2, ↓px_l2, ↓px_il, ↓px_d0, ↓px_d1, ↓px_d2, ↓px_pop, ↓px_sp, ↓px_rd, ↓px_rf, ↓pn_xf, ↓px_pt, ↓px_sw, ↓pn_SW, ↓px_ma, ↓reduceIte, Nat.reduceEqDiff, Nat.reduceAdd, Nat.reduceSub, ↓Option.toList_some, ↓Option.toList_none, ↓List.cons_append, ↓List.nil_append, ↓kI_s, ↓kJ_s, ↓kN_s, ↓kO_s, ↓kZ_s, ↓kE_s, ↓an_rfl, ↓bt1 n00, ↓bt2 n00, ↓bf1 n10, ↓bf2 n10, ↓an_sz0, ↓an_sz1, ↓an_sz2, ↓an_sz3, ↓an_sz4, ↓an_ri, ↓an_rb0, ↓an_rb1, ↓an_b0, ↓an_b1, true_and, ↓ai_0s, ↓al_0s, ↓av_0s, ↓aq_0s, ↓ai_1s, ↓al_1s, ↓av_1s, ↓aq_1s, ↓ai_2s, ↓al_2s, ↓av_2s, ↓aq_2s, ↓ai_3s, ↓al_3s, ↓av_3s, ↓aq_3s, ↓ai_4s, ↓al_4s, ↓av_4s, ↓aq_4s, ↓ai_5s, ↓al_5s, ↓av_5s, ↓aq_5s, ↓ai_6s, ↓al_6s, ↓av_6s, ↓aq_6s, ↓ai_7s, ↓al_7s, ↓av_7s, ↓aq_7s, ↓an_l6, ↓bk_2010, ↓kp_2010_21]
  rw [oW_some] at hs
  exact hs
set_option maxHeartbeats 4000000 in
set_option maxRecDepth 100000 in
theorem rl_2010_236 {C : px_C} (hn : px_nd (px_tb C)) {h : Nat} (hh : 28 ≤ h) (hC : px_ok C pn_i2010 h) {k : Option px_V → px_M → Prop} {x0 : Nat} {x2 : Int32} {x3 : Int32} {x4 : Int32} {x5 : Int32} {σ : px_M} (hs : oW (f_2010_236 (px_tb C) σ x0 x2 x3 x4 x5) (Sum.elim (fun s : Int32 × px_M => ∀ (z1 : Option px_V), px_W C k 203 [some (.inr (.inr (some x0))), z1, some (.inl x2), some (.inl x3), some (.inl x4), some (.inl s.1)] [] s.2) (Sum.elim (fun s : Int32 × px_M => ∀ (z1 : Option px_V) (z4 : Option px_V) (z5 : Option px_V), px_W C k 21 [some (.inr (.inr (some x0))), z1, some (.inl x2), some (.inl s.1), z4, z5] [] s.2) (fun τ => k none τ)))) : ∀ (z1 : Option px_V), px_W C k 236 [some (.inr (.inr (some x0))), z1, some (.inl x2), some (.inl x3), some (.inl x4), some (.inl x5)] [] σ := by
  intro z1
  refine px_runH (h - 1) ck_2010 [] [(203, kp_2010_203 (fun y0 y2 y3 y4 y5 τ => y0 = x0 ∧ y2 = x2 ∧ y3 = x3 ∧ y4 = x4 ∧ (fun s : Int32 × px_M => ∀ (z1 : Option px_V), px_W C k 203 [some (.inr (.inr (some x0))), z1, some (.inl x2), some (.inl x3), some (.inl x4), some (.inl s.1)] [] s.2) (y5, τ)))] 80 6 none rfl rfl hC px_nosp (by omega) (px_cut1 (kq_2010_203 (fun y0 y2 y3 y4 y5 τ hq => by obtain ⟨rfl, rfl, rfl, rfl, hq⟩ := hq; exact hq)) px_nocut) (fun G Jf hG hJf => ?_)
  unfold f_2010_236 at hs
  simp only [↓hG, ↓hJf, ↓px_vc, ↓px_ex, ↓px_jp, ↓px_gi, ↓px_gl, ↓px_gr, ↓px_s1, ↓px_s2, ↓px_nl, ↓px_i1, ↓px_l1, ↓r1_s, ↓px_q1, ↓px_i2, ↓px_l2, ↓px_il, ↓px_d0, ↓px_d1, ↓px_d2, ↓px_pop, ↓px_sp, ↓px_rd, ↓px_rf, ↓pn_xf, ↓px_pt, ↓px_sw, ↓pn_SW, ↓px_ma, ↓reduceIte, Nat.reduceEqDiff, Nat.reduceAdd, Nat.reduceSub, ↓Option.toList_some, ↓Option.toList_none, ↓List.cons_append, ↓List.nil_append, ↓kI_s, ↓kJ_s, ↓kN_s, ↓kO_s, ↓kZ_s, ↓kE_s, ↓an_rfl, ↓bt1 n00, ↓bt2 n00, ↓bf1 n10, ↓bf2 n10, ↓an_sz0, ↓an_sz1, ↓an_sz2, ↓an_sz3, ↓an_sz4, ↓an_ri, ↓an_rb0, ↓an_rb1, ↓an_b0, ↓an_b1, true_and, ↓ai_0s, ↓al_0s, ↓av_0s, ↓aq_0s, ↓ai_1s, ↓al_1s, ↓av_1s, ↓aq_1s, ↓ai_2s, ↓al_2s, ↓av_2s, ↓aq_2s, ↓ai_3s, ↓al_3s, ↓av_3s, ↓aq_3s, ↓ai_4s, ↓al_4s, ↓av_4s, ↓aq_4s, ↓ai_5s, ↓al_5s, ↓av_5s, ↓aq_5s, ↓ai_6s, ↓al_6s, ↓av_6s, ↓aq_6s, ↓ai_7s, ↓al_7s, ↓av_7s, ↓aq_7s, ↓an_l6, ↓bk_2010, ↓kp_2010_203]
  rw [oW_some] at hs
  exact hs
set_option maxHeartbeats 4000000 in
set_option maxRecDepth 100000 in
theorem rl_2010_203 {C : px_C} (hn : px_nd (px_tb C)) {h : Nat} (hh : 28 ≤ h) (hC : px_ok C pn_i2010 h) {k : Option px_V → px_M → Prop} {x0 : Nat} {x2 : Int32} {x3 : Int32} {x4 : Int32} : ∀ s : Int32 × px_M, oW (f_2010_203 (px_tb C) x0 x2 x3 x4 s.1 s.2) (Sum.elim (fun s : Int32 × px_M => ∀ (z1 : Option px_V) (z4 : Option px_V) (z5 : Option px_V), px_W C k 21 [some (.inr (.inr (some x0))), z1, some (.inl x2), some (.inl s.1), z4, z5] [] s.2) (fun τ => k none τ)) → (fun s : Int32 × px_M => ∀ (z1 : Option px_V), px_W C k 203 [some (.inr (.inr (some x0))), z1, some (.inl x2), some (.inl x3), some (.inl x4), some (.inl s.1)] [] s.2) s := by
  intro s h0
  refine lpO_sound (P := (fun s : Int32 × px_M => ∀ (z1 : Option px_V), px_W C k 203 [some (.inr (.inr (some x0))), z1, some (.inl x2), some (.inl x3), some (.inl x4), some (.inl s.1)] [] s.2)) (fun s hs => ?_) h0
  obtain ⟨x5, σ⟩ := s
  intro z1
  refine px_runH (h - 1) ck_2010 [(2011, Sg_2011 (f_2011 (px_tb C)))] [(236, kp_2010_236 (fun y0 y2 y3 y4 y5 τ => y0 = x0 ∧ y2 = x2 ∧ y3 = x3 ∧ y4 = x4 ∧ oW (f_2010_236 (px_tb C) τ y0 y2 y3 y4 y5) (Sum.elim (fun s : Int32 × px_M => ∀ (z1 : Option px_V), px_W C k 203 [some (.inr (.inr (some x0))), z1, some (.inl x2), some (.inl x3), some (.inl x4), some (.inl s.1)] [] s.2) (Sum.elim (fun s : Int32 × px_M => ∀ (z1 : Option px_V) (z4 : Option px_V) (z5 : Option px_V), px_W C k 21 [some (.inr (.inr (some x0))), z1, some (.inl x2), some (.inl s.1), z4, z5] [] s.2) (fun τ => k none τ))))), (242, kp_2010_242 (fun y0 y2 y3 τ => y0 = x0 ∧ y2 = x2 ∧ oW (f_2010_242 (px_tb C) τ y0 y2 y3) (Sum.elim (fun s : Int32 × px_M => ∀ (z1 : Option px_V) (z4 : Option px_V) (z5 : Option px_V), px_W C k 21 [some (.inr (.inr (some x0))), z1, some (.inl x2), some (.inl s.1), z4, z5] [] s.2) (fun τ => k none τ))))] 80 6 none rfl rfl hC (px_sp1 (mf_2011 hn (by omega)) px_nosp) (by omega) (px_cut1 (kq_2010_236 (fun y0 y2 y3 y4 y5 τ hq => by obtain ⟨rfl, rfl, rfl, rfl, hq⟩ := hq; exact rl_2010_236 hn (by omega) hC  hq)) (px_cut1 (kq_2010_242 (fun y0 y2 y3 τ hq => by obtain ⟨rfl, rfl, hq⟩ := hq; exact rl_2010_242 hn (by omega) hC  hq)) px_nocut)) (fun G Jf hG hJf => ?_)
  replace hs : oW (F_2010_203 (px_tb C) x0 x2 x3 x4 x5 σ) _ := hs
  unfold F_2010_203 at hs
  obtain ⟨hc0, hs⟩ := oW_gx hs
  obtain ⟨n1, hc1, hs⟩ := oW_bx hs
  obtain ⟨hc2, hs⟩ := oW_gx hs
  by_cases hc3 : ((σ).1 n1 0) ≤ x5
  · replace hs := oW_t hs hc3
    simp only [↓hG, ↓hJf, ↓px_vc, ↓px_ex, ↓px_jp, ↓px_gi, ↓px_gl, ↓px_gr, ↓px_s1, ↓px_s2, ↓px_nl, ↓px_i1, ↓px_l1, ↓r1_s, ↓px_q1, ↓px_i2, ↓px_l2, ↓px_il, ↓px_d0, ↓px_d1, ↓px_d2, ↓px_pop, ↓px_sp, ↓px_rd, ↓px_rf, ↓pn_xf, ↓px_pt, ↓px_sw, ↓pn_SW, ↓px_ma, ↓reduceIte, Nat.reduceEqDiff, Nat.reduceAdd, Nat.reduceSub, ↓Option.toList_some, ↓Option.toList_none, ↓List.cons_append, ↓List.nil_append, ↓kI_s, ↓kJ_s, ↓kN_s, ↓kO_s, ↓kZ_s, ↓kE_s, ↓an_rfl, ↓bt1 n00, ↓bt2 n00, ↓bf1 n10, ↓bf2 n10, ↓an_sz0, ↓an_sz1, ↓an_sz2, ↓an_sz3, ↓an_sz4, ↓an_ri, ↓an_rb0, ↓an_rb1, ↓an_b0, ↓an_b1, true_and, ↓ai_0s, ↓al_0s, ↓av_0s, ↓aq_0s, ↓ai_1s, ↓al_1s, ↓av_1s, ↓aq_1s, ↓ai_2s, ↓al_2s, ↓av_2s, ↓aq_2s, ↓ai_3s, ↓al_3s, ↓av_3s, ↓aq_3s, ↓ai_4s, ↓al_4s, ↓av_4s, ↓aq_4s, ↓ai_5s, ↓al_5s, ↓av_5s, ↓aq_5s, ↓ai_6s, ↓al_6s, ↓av_6s, ↓aq_6s, ↓ai_7s, ↓al_7s, ↓av_7s, ↓aq_7s, ↓an_l6, ↓bk_2010, ↓Sg_2011, ↓kp_2010_236, ↓kp_2010_242, ↓an_t hc0, ↓an_rv hc0, ↓r1_e hc1, ↓av_0e hc1, ↓av_1e hc1, ↓av_2e hc1, ↓av_3e hc1, ↓an_t hc2, ↓an_rv hc2, ↓an_rvo hc1 hc2, ↓bt1 hc3, ↓bt2 hc3]
    simp only [oW_map] at hs
    exact hs
  · replace hs := oW_f hs hc3
    obtain ⟨r2, hc4, hs⟩ := oW_bx hs
    obtain ⟨n3, hc5, hs⟩ := oW_bx hs
    obtain ⟨t4, l5, hc6, hs⟩ := oW_ax hs
    obtain ⟨hc7, hs⟩ := oW_gx hs
    obtain ⟨hc8, hs⟩ := oW_gx hs
    simp only [↓hG, ↓hJf, ↓px_vc, ↓px_ex, ↓px_jp, ↓px_gi, ↓px_gl, ↓px_gr, ↓px_s1, ↓px_s2, ↓px_nl, ↓px_i1, ↓px_l1, ↓r1_s, ↓px_q1, ↓px_i2, ↓px_l2, ↓px_il, ↓px_d0, ↓px_d1, ↓px_d2, ↓px_pop, ↓px_sp, ↓px_rd, ↓px_rf, ↓pn_xf, ↓px_pt, ↓px_sw, ↓pn_SW, ↓px_ma, ↓reduceIte, Nat.reduceEqDiff, Nat.reduceAdd, Nat.reduceSub, ↓Option.toList_some, ↓Option.toList_none, ↓List.cons_append, ↓List.nil_append, ↓kI_s, ↓kJ_s, ↓kN_s, ↓kO_s, ↓kZ_s, ↓kE_s, ↓an_rfl, ↓bt1 n00, ↓bt2 n00, ↓bf1 n10, ↓bf2 n10, ↓an_sz0, ↓an_sz1, ↓an_sz2, ↓an_sz3, ↓an_sz4, ↓an_ri, ↓an_rb0, ↓an_rb1, ↓an_b0, ↓an_b1, true_and, ↓ai_0s, ↓al_0s, ↓av_0s, ↓aq_0s, ↓ai_1s, ↓al_1s, ↓av_1s, ↓aq_1s, ↓ai_2s, ↓al_2s, ↓av_2s, ↓aq_2s, ↓ai_3s, ↓al_3s, ↓av_3s, ↓aq_3s, ↓ai_4s, ↓al_4s, ↓av_4s, ↓aq_4s, ↓ai_5s, ↓al_5s, ↓av_5s, ↓aq_5s, ↓ai_6s, ↓al_6s, ↓av_6s, ↓aq_6s, ↓ai_7s, ↓al_7s, ↓av_7s, ↓aq_7s, ↓an_l6, ↓bk_2010, ↓Sg_2011, ↓kp_2010_236, ↓kp_2010_242, ↓an_t hc0, ↓an_rv hc0, ↓r1_e hc1, ↓av_0e hc1, ↓av_1e hc1, ↓av_2e hc1, ↓av_3e hc1, ↓an_t hc2, ↓an_rv hc2, ↓an_rvo hc1 hc2, ↓bf1 hc3, ↓bf2 hc3, ↓oW_e hc4, ↓r1_e hc5, ↓av_0e hc5, ↓av_1e hc5, ↓av_2e hc5, ↓av_3e hc5, ↓ar_e hc6, ↓an_t hc7, ↓an_t hc8]
    exact hs
set_option maxHeartbeats 4000000 in
set_option maxRecDepth 100000 in
theorem rl_2010_48 {C : px_C} (hn : px_nd (px_tb C)) {h : Nat} (hh : 28 ≤ h) (hC : px_ok C pn_i2010 h) {k : Option px_V → px_M → Prop} {x0 : Nat} {x2 : Int32} {x3 : Int32} {x4 : Int32} {σ : px_M} (hs : oW (f_2010_48 (px_tb C) σ x0 x2 x3 x4) (Sum.elim (fun s : Int32 × px_M => ∀ (z1 : Option px_V) (z4 : Option px_V) (z5 : Option px_V), px_W C k 21 [some (.inr (.inr (some x0))), z1, some (.inl x2), some (.inl s.1), z4, z5] [] s.2) (fun τ => k none τ))) : ∀ (z1 : Option px_V) (z5 : Option px_V), px_W C k 48 [some (.inr (.inr (some x0))), z1, some (.inl x2), some (.inl x3), some (.inl x4), z5] [] σ := by
  intro z1 z5
  refine px_runH (h - 1) ck_2010 [(3008, Sg_3008 (f_3008 (px_tb C))), (8002, Sg_8002 (f_8002 (px_tb C))), (11004, Sg_11004 (f_11004 (px_tb C))), (11015, Sg_11015 (f_11015 (px_tb C))), (11031, Sg_11031 (f_11031 (px_tb C)))] [(203, kp_2010_203 (fun y0 y2 y3 y4 y5 τ => y0 = x0 ∧ y2 = x2 ∧ oW (f_2010_203 (px_tb C) y0 y2 y3 y4 y5 τ) (Sum.elim (fun s : Int32 × px_M => ∀ (z1 : Option px_V) (z4 : Option px_V) (z5 : Option px_V), px_W C k 21 [some (.inr (.inr (some x0))), z1, some (.inl x2), some (.inl s.1), z4, z5] [] s.2) (fun τ => k none τ)))), (242, kp_2010_242 (fun y0 y2 y3 τ => y0 = x0 ∧ y2 = x2 ∧ oW (f_2010_242 (px_tb C) τ y0 y2 y3) (Sum.elim (fun s : Int32 × px_M => ∀ (z1 : Option px_V) (z4 : Option px_V) (z5 : Option px_V), px_W C k 21 [some (.inr (.inr (some x0))), z1, some (.inl x2), some (.inl s.1), z4, z5] [] s.2) (fun τ => k none τ))))] 80 6 none rfl rfl hC (px_sp1 (mf_3008 hn (by omega)) (px_sp1 (mf_8002 hn (by omega)) (px_sp1 (mf_11004 hn (by omega)) (px_sp1 (mf_11015 hn (by omega)) (px_sp1 (mf_11031 hn (by omega)) px_nosp))))) (by omega) (px_cut1 (kq_2010_203 (fun y0 y2 y3 y4 y5 τ hq => by obtain ⟨rfl, rfl, hq⟩ := hq; exact rl_2010_203 hn (by omega) hC (y5, τ) hq)) (px_cut1 (kq_2010_242 (fun y0 y2 y3 τ hq => by obtain ⟨rfl, rfl, hq⟩ := hq; exact rl_2010_242 hn (by omega) hC  hq)) px_nocut)) (fun G Jf hG hJf => ?_)
  unfold f_2010_48 at hs
  by_cases hc0 : ((nI 1000) + x3) = nI 1004
  · replace hs := oW_t hs hc0
    obtain ⟨hc1, hs⟩ := oW_gx hs
    obtain ⟨n1, hc2, hs⟩ := oW_bx hs
    obtain ⟨hc3, hs⟩ := oW_gx hs
    obtain ⟨n2, hc4, hs⟩ := oW_bx hs
    obtain ⟨t3, l4, hc5, hs⟩ := oW_ax hs
    obtain ⟨hc6, hs⟩ := oW_gx hs
    obtain ⟨hc7, hs⟩ := oW_gx hs
    simp only [↓hG, ↓hJf, ↓px_vc, ↓px_ex, ↓px_jp, ↓px_gi, ↓px_gl, ↓px_gr, ↓px_s1, ↓px_s2, ↓px_nl, ↓px_i1, ↓px_l1, ↓r1_s, ↓px_q1, ↓px_i2, ↓px_l2, ↓px_il, ↓px_d0, ↓px_d1, ↓px_d2, ↓px_pop, ↓px_sp, ↓px_rd, ↓px_rf, ↓pn_xf, ↓px_pt, ↓px_sw, ↓pn_SW, ↓px_ma, ↓reduceIte, Nat.reduceEqDiff, Nat.reduceAdd, Nat.reduceSub, ↓Option.toList_some, ↓Option.toList_none, ↓List.cons_append, ↓List.nil_append, ↓kI_s, ↓kJ_s, ↓kN_s, ↓kO_s, ↓kZ_s, ↓kE_s, ↓an_rfl, ↓bt1 n00, ↓bt2 n00, ↓bf1 n10, ↓bf2 n10, ↓an_sz0, ↓an_sz1, ↓an_sz2, ↓an_sz3, ↓an_sz4, ↓an_ri, ↓an_rb0, ↓an_rb1, ↓an_b0, ↓an_b1, true_and, ↓ai_0s, ↓al_0s, ↓av_0s, ↓aq_0s, ↓ai_1s, ↓al_1s, ↓av_1s, ↓aq_1s, ↓ai_2s, ↓al_2s, ↓av_2s, ↓aq_2s, ↓ai_3s, ↓al_3s, ↓av_3s, ↓aq_3s, ↓ai_4s, ↓al_4s, ↓av_4s, ↓aq_4s, ↓ai_5s, ↓al_5s, ↓av_5s, ↓aq_5s, ↓ai_6s, ↓al_6s, ↓av_6s, ↓aq_6s, ↓ai_7s, ↓al_7s, ↓av_7s, ↓aq_7s, ↓an_l6, ↓bk_2010, ↓Sg_3008, ↓Sg_8002, ↓Sg_11004, ↓Sg_11015, ↓Sg_11031, ↓kp_2010_203, ↓kp_2010_242, ↓bt1 hc0, ↓bt2 hc0, ↓an_t hc1, ↓an_rv hc1, ↓r1_e hc2, ↓av_0e hc2, ↓av_1e hc2, ↓av_2e hc2, ↓av_3e hc2, ↓an_t hc3, ↓an_rv hc3, ↓an_rvo hc2 hc3, ↓r1_e hc4, ↓av_0e hc4, ↓av_1e hc4, ↓av_2e hc4, ↓av_3e hc4, ↓ar_e hc5, ↓an_t hc6, ↓an_t hc7]
    exact hs
  · replace hs := oW_f hs hc0
    by_cases hc1 : ((nI 1000) + x3) = nI 1005
    · replace hs := oW_t hs hc1
      obtain ⟨hc2, hs⟩ := oW_gx hs
      obtain ⟨n5, hc3, hs⟩ := oW_bx hs
      obtain ⟨hc4, hs⟩ := oW_gx hs
      obtain ⟨r6, hc5, hs⟩ := oW_bx hs
      obtain ⟨n7, hc6, hs⟩ := oW_bx hs
      obtain ⟨t8, l9, hc7, hs⟩ := oW_ax hs
      obtain ⟨hc8, hs⟩ := oW_gx hs
      obtain ⟨hc9, hs⟩ := oW_gx hs
      simp only [↓hG, ↓hJf, ↓px_vc, ↓px_ex, ↓px_jp, ↓px_gi, ↓px_gl, ↓px_gr, ↓px_s1, ↓px_s2, ↓px_nl, ↓px_i1, ↓px_l1, ↓r1_s, ↓px_q1, ↓px_i2, ↓px_l2, ↓px_il, ↓px_d0, ↓px_d1, ↓px_d2, ↓px_pop, ↓px_sp, ↓px_rd, ↓px_rf, ↓pn_xf, ↓px_pt, ↓px_sw, ↓pn_SW, ↓px_ma, ↓reduceIte, Nat.reduceEqDiff, Nat.reduceAdd, Nat.reduceSub, ↓Option.toList_some, ↓Option.toList_none, ↓List.cons_append, ↓List.nil_append, ↓kI_s, ↓kJ_s, ↓kN_s, ↓kO_s, ↓kZ_s, ↓kE_s, ↓an_rfl, ↓bt1 n00, ↓bt2 n00, ↓bf1 n10, ↓bf2 n10, ↓an_sz0, ↓an_sz1, ↓an_sz2, ↓an_sz3, ↓an_sz4, ↓an_ri, ↓an_rb0, ↓an_rb1, ↓an_b0, ↓an_b1, true_and, ↓ai_0s, ↓al_0s, ↓av_0s, ↓aq_0s, ↓ai_1s, ↓al_1s, ↓av_1s, ↓aq_1s, ↓ai_2s, ↓al_2s, ↓av_2s, ↓aq_2s, ↓ai_3s, ↓al_3s, ↓av_3s, ↓aq_3s, ↓ai_4s, ↓al_4s, ↓av_4s, ↓aq_4s, ↓ai_5s, ↓al_5s, ↓av_5s, ↓aq_5s, ↓ai_6s, ↓al_6s, ↓av_6s, ↓aq_6s, ↓ai_7s, ↓al_7s, ↓av_7s, ↓aq_7s, ↓an_l6, ↓bk_2010, ↓Sg_3008, ↓Sg_8002, ↓Sg_11004, ↓Sg_11015, ↓Sg_11031, ↓kp_2010_203, ↓kp_2010_242, ↓bf1 hc0, ↓bf2 hc0, ↓bt1 hc1, ↓bt2 hc1, ↓an_t hc2, ↓an_rv hc2, ↓r1_e hc3, ↓av_0e hc3, ↓av_1e hc3, ↓av_2e hc3, ↓av_3e hc3, ↓an_t hc4, ↓an_rv hc4, ↓an_rvo hc3 hc4, ↓oW_e hc5, ↓r1_e hc6, ↓av_0e hc6, ↓av_1e hc6, ↓av_2e hc6, ↓av_3e hc6, ↓ar_e hc7, ↓an_t hc8, ↓an_t hc9]
      exact hs
    · replace hs := oW_f hs hc1
      by_cases hc2 : ((nI 1000) + x3) = nI 1006
      · replace hs := oW_t hs hc2
        obtain ⟨hc3, hs⟩ := oW_gx hs
        obtain ⟨n11, hc4, hs⟩ := oW_bx hs
        obtain ⟨r12, hc5, hs⟩ := oW_bx hs
        obtain ⟨n13, hc6, hs⟩ := oW_bx hs
        obtain ⟨t14, l15, hc7, hs⟩ := oW_ax hs
        obtain ⟨hc8, hs⟩ := oW_gx hs
        obtain ⟨hc9, hs⟩ := oW_gx hs
        simp only [↓hG, ↓hJf, ↓px_vc, ↓px_ex, ↓px_jp, ↓px_gi, ↓px_gl, ↓px_gr, ↓px_s1, ↓px_s2, ↓px_nl, ↓px_i1, ↓px_l1, ↓r1_s, ↓px_q1, ↓px_i2, ↓px_l2, ↓px_il, ↓px_d0, ↓px_d1, ↓px_d2, ↓px_pop, ↓px_sp, ↓px_rd, ↓px_rf, ↓pn_xf, ↓px_pt, ↓px_sw, ↓pn_SW, ↓px_ma, ↓reduceIte, Nat.reduceEqDiff, Nat.reduceAdd, Nat.reduceSub, ↓Option.toList_some, ↓Option.toList_none, ↓List.cons_append, ↓List.nil_append, ↓kI_s, ↓kJ_s, ↓kN_s, ↓kO_s, ↓kZ_s, ↓kE_s, ↓an_rfl, ↓bt1 n00, ↓bt2 n00, ↓bf1 n10, ↓bf2 n10, ↓an_sz0, ↓an_sz1, ↓an_sz2, ↓an_sz3, ↓an_sz4, ↓an_ri, ↓an_rb0, ↓an_rb1, ↓an_b0, ↓an_b1, true_and, ↓ai_0s, ↓al_0s, ↓av_0s, ↓aq_0s, ↓ai_1s, ↓al_1s, ↓av_1s, ↓aq_1s, ↓ai_2s, ↓al_2s, ↓av_2s, ↓aq_2s, ↓ai_3s, ↓al_3s, ↓av_3s, ↓aq_3s, ↓ai_4s, ↓al_4s, ↓av_4s, ↓aq_4s, ↓ai_5s, ↓al_5s, ↓av_5s, ↓aq_5s, ↓ai_6s, ↓al_6s, ↓av_6s, ↓aq_6s, ↓ai_7s, ↓al_7s, ↓av_7s, ↓aq_7s, ↓an_l6, ↓bk_2010, ↓Sg_3008, ↓Sg_8002, ↓Sg_11004, ↓Sg_11015, ↓Sg_11031, ↓kp_2010_203, ↓kp_2010_242, ↓bf1 hc0, ↓bf2 hc0, ↓bf1 hc1, ↓bf2 hc1, ↓bt1 hc2, ↓bt2 hc2, ↓an_t hc3, ↓an_rv hc3, ↓r1_e hc4, ↓av_0e hc4, ↓av_1e hc4, ↓av_2e hc4, ↓av_3e hc4, ↓oW_e hc5, ↓r1_e hc6, ↓av_0e hc6, ↓av_1e hc6, ↓av_2e hc6, ↓av_3e hc6, ↓ar_e hc7, ↓an_t hc8, ↓an_t hc9]
        exact hs
      · replace hs := oW_f hs hc2
        by_cases hc3 : ((nI 1000) + x3) = nI 1007
        · replace hs := oW_t hs hc3
          obtain ⟨hc4, hs⟩ := oW_gx hs
          obtain ⟨n16, hc5, hs⟩ := oW_bx hs
          obtain ⟨hc6, hs⟩ := oW_gx hs
          obtain ⟨r17, hc7, hs⟩ := oW_bx hs
          obtain ⟨n18, hc8, hs⟩ := oW_bx hs
          obtain ⟨hc9, hs⟩ := oW_gx hs
          obtain ⟨q19, hc10, hs⟩ := oW_bx hs
          obtain ⟨n20, hc11, hs⟩ := oW_bx hs
          obtain ⟨t21, l22, hc12, hs⟩ := oW_ax hs
          obtain ⟨hc13, hs⟩ := oW_gx hs
          obtain ⟨hc14, hs⟩ := oW_gx hs
          simp only [↓hG, ↓hJf, ↓px_vc, ↓px_ex, ↓px_jp, ↓px_gi, ↓px_gl, ↓px_gr, ↓px_s1, ↓px_s2, ↓px_nl, ↓px_i1, ↓px_l1, ↓r1_s, ↓px_q1, ↓px_i2, ↓px_l2, ↓px_il, ↓px_d0, ↓px_d1, ↓px_d2, ↓px_pop, ↓px_sp, ↓px_rd, ↓px_rf, ↓pn_xf, ↓px_pt, ↓px_sw, ↓pn_SW, ↓px_ma, ↓reduceIte, Nat.reduceEqDiff, Nat.reduceAdd, Nat.reduceSub, ↓Option.toList_some, ↓Option.toList_none, ↓List.cons_append, ↓List.nil_append, ↓kI_s, ↓kJ_s, ↓kN_s, ↓kO_s, ↓kZ_s, ↓kE_s, ↓an_rfl, ↓bt1 n00, ↓bt2 n00, ↓bf1 n10, ↓bf2 n10, ↓an_sz0, ↓an_sz1, ↓an_sz2, ↓an_sz3, ↓an_sz4, ↓an_ri, ↓an_rb0, ↓an_rb1, ↓an_b0, ↓an_b1, true_and, ↓ai_0s, ↓al_0s, ↓av_0s, ↓aq_0s, ↓ai_1s, ↓al_1s, ↓av_1s, ↓aq_1s, ↓ai_2s, ↓al_2s, ↓av_2s, ↓aq_2s, ↓ai_3s, ↓al_3s, ↓av_3s, ↓aq_3s, ↓ai_4s, ↓al_4s, ↓av_4s, ↓aq_4s, ↓ai_5s, ↓al_5s, ↓av_5s, ↓aq_5s, ↓ai_6s, ↓al_6s, ↓av_6s, ↓aq_6s, ↓ai_7s, ↓al_7s, ↓av_7s, ↓aq_7s, ↓an_l6, ↓bk_2010, ↓Sg_3008, ↓Sg_8002, ↓Sg_11004, ↓Sg_11015, ↓Sg_11031, ↓kp_2010_203, ↓kp_2010_242, ↓bf1 hc0, ↓bf2 hc0, ↓bf1 hc1, ↓bf2 hc1, ↓bf1 hc2, ↓bf2 hc2, ↓bt1 hc3, ↓bt2 hc3, ↓an_t hc4, ↓an_rv hc4, ↓r1_e hc5, ↓av_0e hc5, ↓av_1e hc5, ↓av_2e hc5, ↓av_3e hc5, ↓an_t hc6, ↓an_rv hc6, ↓an_rvo hc5 hc6, ↓oW_e hc7, ↓r1_e hc8, ↓av_0e hc8, ↓av_1e hc8, ↓av_2e hc8, ↓av_3e hc8, ↓an_t hc9, ↓an_rv hc9, ↓an_rvo hc8 hc9, ↓oW_e hc10, ↓r1_e hc11, ↓av_0e hc11, ↓av_1e hc11, ↓av_2e hc11, ↓av_3e hc11, ↓ar_e hc12, ↓an_t hc13, ↓an_t hc14]
          exact hs
        · replace hs := oW_f hs hc3
          by_cases hc4 : ((nI 1000) + x3) = nI 1008
          · replace hs := oW_t hs hc4
            obtain ⟨hc5, hs⟩ := oW_gx hs
            obtain ⟨n23, hc6, hs⟩ := oW_bx hs
            obtain ⟨hc7, hs⟩ := oW_gx hs
            obtain ⟨r24, hc8, hs⟩ := oW_bx hs
            obtain ⟨r25, hc9, hs⟩ := oW_bx hs
            by_cases hc10 : r25 = (-1)
            · replace hs := bW_t hs hc10
              obtain ⟨n26, hc11, hs⟩ := oW_bx hs
              obtain ⟨t27, l28, hc12, hs⟩ := oW_ax hs
              obtain ⟨hc13, hs⟩ := oW_gx hs
              obtain ⟨hc14, hs⟩ := oW_gx hs
              simp only [↓hG, ↓hJf, ↓px_vc, ↓px_ex, ↓px_jp, ↓px_gi, ↓px_gl, ↓px_gr, ↓px_s1, ↓px_s2, ↓px_nl, ↓px_i1, ↓px_l1, ↓r1_s, ↓px_q1, ↓px_i2, ↓px_l2, ↓px_il, ↓px_d0, ↓px_d1, ↓px_d2, ↓px_pop, ↓px_sp, ↓px_rd, ↓px_rf, ↓pn_xf, ↓px_pt, ↓px_sw, ↓pn_SW, ↓px_ma, ↓reduceIte, Nat.reduceEqDiff, Nat.reduceAdd, Nat.reduceSub, ↓Option.toList_some, ↓Option.toList_none, ↓List.cons_append, ↓List.nil_append, ↓kI_s, ↓kJ_s, ↓kN_s, ↓kO_s, ↓kZ_s, ↓kE_s, ↓an_rfl, ↓bt1 n00, ↓bt2 n00, ↓bf1 n10, ↓bf2 n10, ↓an_sz0, ↓an_sz1, ↓an_sz2, ↓an_sz3, ↓an_sz4, ↓an_ri, ↓an_rb0, ↓an_rb1, ↓an_b0, ↓an_b1, true_and, ↓ai_0s, ↓al_0s, ↓av_0s, ↓aq_0s, ↓ai_1s, ↓al_1s, ↓av_1s, ↓aq_1s, ↓ai_2s, ↓al_2s, ↓av_2s, ↓aq_2s, ↓ai_3s, ↓al_3s, ↓av_3s, ↓aq_3s, ↓ai_4s, ↓al_4s, ↓av_4s, ↓aq_4s, ↓ai_5s, ↓al_5s, ↓av_5s, ↓aq_5s, ↓ai_6s, ↓al_6s, ↓av_6s, ↓aq_6s, ↓ai_7s, ↓al_7s, ↓av_7s, ↓aq_7s, ↓an_l6, ↓bk_2010, ↓Sg_3008, ↓Sg_8002, ↓Sg_11004, ↓Sg_11015, ↓Sg_11031, ↓kp_2010_203, ↓kp_2010_242, ↓bf1 hc0, ↓bf2 hc0, ↓bf1 hc1, ↓bf2 hc1, ↓bf1 hc2, ↓bf2 hc2, ↓bf1 hc3, ↓bf2 hc3, ↓bt1 hc4, ↓bt2 hc4, ↓an_t hc5, ↓an_rv hc5, ↓r1_e hc6, ↓av_0e hc6, ↓av_1e hc6, ↓av_2e hc6, ↓av_3e hc6, ↓an_t hc7, ↓an_rv hc7, ↓an_rvo hc6 hc7, ↓oW_e hc8, ↓oW_e hc9, ↓bt1 hc10, ↓bt2 hc10, ↓r1_e hc11, ↓av_0e hc11, ↓av_1e hc11, ↓av_2e hc11, ↓av_3e hc11, ↓ar_e hc12, ↓an_t hc13, ↓an_t hc14]
              exact hs
            · replace hs := bW_f hs hc10
              obtain ⟨n29, hc11, hs⟩ := oW_bx hs
              obtain ⟨t30, l31, hc12, hs⟩ := oW_ax hs
              obtain ⟨hc13, hs⟩ := oW_gx hs
              obtain ⟨hc14, hs⟩ := oW_gx hs
              simp only [↓hG, ↓hJf, ↓px_vc, ↓px_ex, ↓px_jp, ↓px_gi, ↓px_gl, ↓px_gr, ↓px_s1, ↓px_s2, ↓px_nl, ↓px_i1, ↓px_l1, ↓r1_s, ↓px_q1, ↓px_i2, ↓px_l2, ↓px_il, ↓px_d0, ↓px_d1, ↓px_d2, ↓px_pop, ↓px_sp, ↓px_rd, ↓px_rf, ↓pn_xf, ↓px_pt, ↓px_sw, ↓pn_SW, ↓px_ma, ↓reduceIte, Nat.reduceEqDiff, Nat.reduceAdd, Nat.reduceSub, ↓Option.toList_some, ↓Option.toList_none, ↓List.cons_append, ↓List.nil_append, ↓kI_s, ↓kJ_s, ↓kN_s, ↓kO_s, ↓kZ_s, ↓kE_s, ↓an_rfl, ↓bt1 n00, ↓bt2 n00, ↓bf1 n10, ↓bf2 n10, ↓an_sz0, ↓an_sz1, ↓an_sz2, ↓an_sz3, ↓an_sz4, ↓an_ri, ↓an_rb0, ↓an_rb1, ↓an_b0, ↓an_b1, true_and, ↓ai_0s, ↓al_0s, ↓av_0s, ↓aq_0s, ↓ai_1s, ↓al_1s, ↓av_1s, ↓aq_1s, ↓ai_2s, ↓al_2s, ↓av_2s, ↓aq_2s, ↓ai_3s, ↓al_3s, ↓av_3s, ↓aq_3s, ↓ai_4s, ↓al_4s, ↓av_4s, ↓aq_4s, ↓ai_5s, ↓al_5s, ↓av_5s, ↓aq_5s, ↓ai_6s, ↓al_6s, ↓av_6s, ↓aq_6s, ↓ai_7s, ↓al_7s, ↓av_7s, ↓aq_7s, ↓an_l6, ↓bk_2010, ↓Sg_3008, ↓Sg_8002, ↓Sg_11004, ↓Sg_11015, ↓Sg_11031, ↓kp_2010_203, ↓kp_2010_242, ↓bf1 hc0, ↓bf2 hc0, ↓bf1 hc1, ↓bf2 hc1, ↓bf1 hc2, ↓bf2 hc2, ↓bf1 hc3, ↓bf2 hc3, ↓bt1 hc4, ↓bt2 hc4, ↓an_t hc5, ↓an_rv hc5, ↓r1_e hc6, ↓av_0e hc6, ↓av_1e hc6, ↓av_2e hc6, ↓av_3e hc6, ↓an_t hc7, ↓an_rv hc7, ↓an_rvo hc6 hc7, ↓oW_e hc8, ↓oW_e hc9, ↓bf1 hc10, ↓bf2 hc10, ↓r1_e hc11, ↓av_0e hc11, ↓av_1e hc11, ↓av_2e hc11, ↓av_3e hc11, ↓ar_e hc12, ↓an_t hc13, ↓an_t hc14]
              exact hs
          · replace hs := oW_f hs hc4
            simp only [↓hG, ↓hJf, ↓px_vc, ↓px_ex, ↓px_jp, ↓px_gi, ↓px_gl, ↓px_gr, ↓px_s1, ↓px_s2, ↓px_nl, ↓px_i1, ↓px_l1, ↓r1_s, ↓px_q1, ↓px_i2, ↓px_l2, ↓px_il, ↓px_d0, ↓px_d1, ↓px_d2, ↓px_pop, ↓px_sp, ↓px_rd, ↓px_rf, ↓pn_xf, ↓px_pt, ↓px_sw, ↓pn_SW, ↓px_ma, ↓reduceIte, Nat.reduceEqDiff, Nat.reduceAdd, Nat.reduceSub, ↓Option.toList_some, ↓Option.toList_none, ↓List.cons_append, ↓List.nil_append, ↓kI_s, ↓kJ_s, ↓kN_s, ↓kO_s, ↓kZ_s, ↓kE_s, ↓an_rfl, ↓bt1 n00, ↓bt2 n00, ↓bf1 n10, ↓bf2 n10, ↓an_sz0, ↓an_sz1, ↓an_sz2, ↓an_sz3, ↓an_sz4, ↓an_ri, ↓an_rb0, ↓an_rb1, ↓an_b0, ↓an_b1, true_and, ↓ai_0s, ↓al_0s, ↓av_0s, ↓aq_0s, ↓ai_1s, ↓al_1s, ↓av_1s, ↓aq_1s, ↓ai_2s, ↓al_2s, ↓av_2s, ↓aq_2s, ↓ai_3s, ↓al_3s, ↓av_3s, ↓aq_3s, ↓ai_4s, ↓al_4s, ↓av_4s, ↓aq_4s, ↓ai_5s, ↓al_5s, ↓av_5s, ↓aq_5s, ↓ai_6s, ↓al_6s, ↓av_6s, ↓aq_6s, ↓ai_7s, ↓al_7s, ↓av_7s, ↓aq_7s, ↓an_l6, ↓bk_2010, ↓Sg_3008, ↓Sg_8002, ↓Sg_11004, ↓Sg_11015, ↓Sg_11031, ↓kp_2010_203, ↓kp_2010_242, ↓bf1 hc0, ↓bf2 hc0, ↓bf1 hc1, ↓bf2 hc1, ↓bf1 hc2, ↓bf2 hc2, ↓bf1 hc3, ↓bf2 hc3, ↓bf1 hc4, ↓bf2 hc4]
            exact hs
set_option maxHeartbeats 4000000 in
set_option maxRecDepth 100000 in
theorem rl_2010_42 {C : px_C} (hn : px_nd (px_tb C)) {h : Nat} (hh : 28 ≤ h) (hC : px_ok C pn_i2010 h) {k : Option px_V → px_M → Prop} {x0 : Nat} {x2 : Int32} {x3 : Int32} {σ : px_M} (hs : oW (f_2010_42 (px_tb C) σ x0 x2 x3) (Sum.elim (fun s : Int32 × px_M => ∀ (z1 : Option px_V) (z4 : Option px_V) (z5 : Option px_V), px_W C k 21 [some (.inr (.inr (some x0))), z1, some (.inl x2), some (.inl s.1), z4, z5] [] s.2) (fun τ => k none τ))) : ∀ (z1 : Option px_V) (z4 : Option px_V) (z5 : Option px_V), px_W C k 42 [some (.inr (.inr (some x0))), z1, some (.inl x2), some (.inl x3), z4, z5] [] σ := by
  intro z1 z4 z5
  refine px_runH (h - 1) ck_2010 [] [(48, kp_2010_48 (fun y0 y2 y3 y4 τ => y0 = x0 ∧ y2 = x2 ∧ oW (f_2010_48 (px_tb C) τ y0 y2 y3 y4) (Sum.elim (fun s : Int32 × px_M => ∀ (z1 : Option px_V) (z4 : Option px_V) (z5 : Option px_V), px_W C k 21 [some (.inr (.inr (some x0))), z1, some (.inl x2), some (.inl s.1), z4, z5] [] s.2) (fun τ => k none τ))))] 80 6 none rfl rfl hC px_nosp (by omega) (px_cut1 (kq_2010_48 (fun y0 y2 y3 y4 τ hq => by obtain ⟨rfl, rfl, hq⟩ := hq; exact rl_2010_48 hn (by omega) hC  hq)) px_nocut) (fun G Jf hG hJf => ?_)
  unfold f_2010_42 at hs
  simp only [↓hG, ↓hJf, ↓px_vc, ↓px_ex, ↓px_jp, ↓px_gi, ↓px_gl, ↓px_gr, ↓px_s1, ↓px_s2, ↓px_nl, ↓px_i1, ↓px_l1, ↓r1_s, ↓px_q1, ↓px_i2, ↓px_l2, ↓px_il, ↓px_d0, ↓px_d1, ↓px_d2, ↓px_pop, ↓px_sp, ↓px_rd, ↓px_rf, ↓pn_xf, ↓px_pt, ↓px_sw, ↓pn_SW, ↓px_ma, ↓reduceIte, Nat.reduceEqDiff, Nat.reduceAdd, Nat.reduceSub, ↓Option.toList_some, ↓Option.toList_none, ↓List.cons_append, ↓List.nil_append, ↓kI_s, ↓kJ_s, ↓kN_s, ↓kO_s, ↓kZ_s, ↓kE_s, ↓an_rfl, ↓bt1 n00, ↓bt2 n00, ↓bf1 n10, ↓bf2 n10, ↓an_sz0, ↓an_sz1, ↓an_sz2, ↓an_sz3, ↓an_sz4, ↓an_ri, ↓an_rb0, ↓an_rb1, ↓an_b0, ↓an_b1, true_and, ↓ai_0s, ↓al_0s, ↓av_0s, ↓aq_0s, ↓ai_1s, ↓al_1s, ↓av_1s, ↓aq_1s, ↓ai_2s, ↓al_2s, ↓av_2s, ↓aq_2s, ↓ai_3s, ↓al_3s, ↓av_3s, ↓aq_3s, ↓ai_4s, ↓al_4s, ↓av_4s, ↓aq_4s, ↓ai_5s, ↓al_5s, ↓av_5s, ↓aq_5s, ↓ai_6s, ↓al_6s, ↓av_6s, ↓aq_6s, ↓ai_7s, ↓al_7s, ↓av_7s, ↓aq_7s, ↓an_l6, ↓bk_2010, ↓kp_2010_48]
  exact hs
set_option maxHeartbeats 4000000 in
set_option maxRecDepth 100000 in
theorem rl_2010_21 {C : px_C} (hn : px_nd (px_tb C)) {h : Nat} (hh : 28 ≤ h) (hC : px_ok C pn_i2010 h) {k : Option px_V → px_M → Prop} {x0 : Nat} {x2 : Int32} : ∀ s : Int32 × px_M, oW (f_2010_21 (px_tb C) x0 x2 s.1 s.2) (fun τ => k none τ) → (fun s : Int32 × px_M => ∀ (z1 : Option px_V) (z4 : Option px_V) (z5 : Option px_V), px_W C k 21 [some (.inr (.inr (some x0))), z1, some (.inl x2), some (.inl s.1), z4, z5] [] s.2) s := by
  intro s h0
  refine lpO_sound (P := (fun s : Int32 × px_M => ∀ (z1 : Option px_V) (z4 : Option px_V) (z5 : Option px_V), px_W C k 21 [some (.inr (.inr (some x0))), z1, some (.inl x2), some (.inl s.1), z4, z5] [] s.2)) (fun s hs => ?_) h0
  obtain ⟨x3, σ⟩ := s
  intro z1 z4 z5
  refine px_runH (h - 1) ck_2010 [] [(42, kp_2010_42 (fun y0 y2 y3 τ => y0 = x0 ∧ y2 = x2 ∧ oW (f_2010_42 (px_tb C) τ y0 y2 y3) (Sum.elim (fun s : Int32 × px_M => ∀ (z1 : Option px_V) (z4 : Option px_V) (z5 : Option px_V), px_W C k 21 [some (.inr (.inr (some x0))), z1, some (.inl x2), some (.inl s.1), z4, z5] [] s.2) (fun τ => k none τ)))), (242, kp_2010_242 (fun y0 y2 y3 τ => y0 = x0 ∧ y2 = x2 ∧ oW (f_2010_242 (px_tb C) τ y0 y2 y3) (Sum.elim (fun s : Int32 × px_M => ∀ (z1 : Option px_V) (z4 : Option px_V) (z5 : Option px_V), px_W C k 21 [some (.inr (.inr (some x0))), z1, some (.inl x2), some (.inl s.1), z4, z5] [] s.2) (fun τ => k none τ))))] 80 6 none rfl rfl hC px_nosp (by omega) (px_cut1 (kq_2010_42 (fun y0 y2 y3 τ hq => by obtain ⟨rfl, rfl, hq⟩ := hq; exact rl_2010_42 hn (by omega) hC  hq)) (px_cut1 (kq_2010_242 (fun y0 y2 y3 τ hq => by obtain ⟨rfl, rfl, hq⟩ := hq; exact rl_2010_242 hn (by omega) hC  hq)) px_nocut)) (fun G Jf hG hJf => ?_)
  replace hs : oW (F_2010_21 (px_tb C) x0 x2 x3 σ) _ := hs
  unfold F_2010_21 at hs
  by_cases hc0 : (nI 9) ≤ x3
  · replace hs := oW_t hs hc0
    simp only [↓hG, ↓hJf, ↓px_vc, ↓px_ex, ↓px_jp, ↓px_gi, ↓px_gl, ↓px_gr, ↓px_s1, ↓px_s2, ↓px_nl, ↓px_i1, ↓px_l1, ↓r1_s, ↓px_q1, ↓px_i2, ↓px_l2, ↓px_il, ↓px_d0, ↓px_d1, ↓px_d2, ↓px_pop, ↓px_sp, ↓px_rd, ↓px_rf, ↓pn_xf, ↓px_pt, ↓px_sw, ↓pn_SW, ↓px_ma, ↓reduceIte, Nat.reduceEqDiff, Nat.reduceAdd, Nat.reduceSub, ↓Option.toList_some, ↓Option.toList_none, ↓List.cons_append, ↓List.nil_append, ↓kI_s, ↓kJ_s, ↓kN_s, ↓kO_s, ↓kZ_s, ↓kE_s, ↓an_rfl, ↓bt1 n00, ↓bt2 n00, ↓bf1 n10, ↓bf2 n10, ↓an_sz0, ↓an_sz1, ↓an_sz2, ↓an_sz3, ↓an_sz4, ↓an_ri, ↓an_rb0, ↓an_rb1, ↓an_b0, ↓an_b1, true_and, ↓ai_0s, ↓al_0s, ↓av_0s, ↓aq_0s, ↓ai_1s, ↓al_1s, ↓av_1s, ↓aq_1s, ↓ai_2s, ↓al_2s, ↓av_2s, ↓aq_2s, ↓ai_3s, ↓al_3s, ↓av_3s, ↓aq_3s, ↓ai_4s, ↓al_4s, ↓av_4s, ↓aq_4s, ↓ai_5s, ↓al_5s, ↓av_5s, ↓aq_5s, ↓ai_6s, ↓al_6s, ↓av_6s, ↓aq_6s, ↓ai_7s, ↓al_7s, ↓av_7s, ↓aq_7s, ↓an_l6, ↓bk_2010, ↓kp_2010_42, ↓kp_2010_242, ↓bt1 hc0, ↓bt2 hc0]
    rw [oW_some] at hs
    exact hs
  · replace hs := oW_f hs hc0
    by_cases hc1 : x2 = nI 0
    · replace hs := oW_t hs hc1
      simp only [↓hG, ↓hJf, ↓px_vc, ↓px_ex, ↓px_jp, ↓px_gi, ↓px_gl, ↓px_gr, ↓px_s1, ↓px_s2, ↓px_nl, ↓px_i1, ↓px_l1, ↓r1_s, ↓px_q1, ↓px_i2, ↓px_l2, ↓px_il, ↓px_d0, ↓px_d1, ↓px_d2, ↓px_pop, ↓px_sp, ↓px_rd, ↓px_rf, ↓pn_xf, ↓px_pt, ↓px_sw, ↓pn_SW, ↓px_ma, ↓reduceIte, Nat.reduceEqDiff, Nat.reduceAdd, Nat.reduceSub, ↓Option.toList_some, ↓Option.toList_none, ↓List.cons_append, ↓List.nil_append, ↓kI_s, ↓kJ_s, ↓kN_s, ↓kO_s, ↓kZ_s, ↓kE_s, ↓an_rfl, ↓bt1 n00, ↓bt2 n00, ↓bf1 n10, ↓bf2 n10, ↓an_sz0, ↓an_sz1, ↓an_sz2, ↓an_sz3, ↓an_sz4, ↓an_ri, ↓an_rb0, ↓an_rb1, ↓an_b0, ↓an_b1, true_and, ↓ai_0s, ↓al_0s, ↓av_0s, ↓aq_0s, ↓ai_1s, ↓al_1s, ↓av_1s, ↓aq_1s, ↓ai_2s, ↓al_2s, ↓av_2s, ↓aq_2s, ↓ai_3s, ↓al_3s, ↓av_3s, ↓aq_3s, ↓ai_4s, ↓al_4s, ↓av_4s, ↓aq_4s, ↓ai_5s, ↓al_5s, ↓av_5s, ↓aq_5s, ↓ai_6s, ↓al_6s, ↓av_6s, ↓aq_6s, ↓ai_7s, ↓al_7s, ↓av_7s, ↓aq_7s, ↓an_l6, ↓bk_2010, ↓kp_2010_42, ↓kp_2010_242, ↓bf1 hc0, ↓bf2 hc0, ↓bt1 hc1, ↓bt2 hc1]
      rw [oW_some] at hs
      exact hs
    · replace hs := oW_f hs hc1
      by_cases hc2 : (x2 &&& ((nI 1) <<< (x3 &&& 31))) = nI 0
      · replace hs := bW_t hs hc2
        simp only [↓hG, ↓hJf, ↓px_vc, ↓px_ex, ↓px_jp, ↓px_gi, ↓px_gl, ↓px_gr, ↓px_s1, ↓px_s2, ↓px_nl, ↓px_i1, ↓px_l1, ↓r1_s, ↓px_q1, ↓px_i2, ↓px_l2, ↓px_il, ↓px_d0, ↓px_d1, ↓px_d2, ↓px_pop, ↓px_sp, ↓px_rd, ↓px_rf, ↓pn_xf, ↓px_pt, ↓px_sw, ↓pn_SW, ↓px_ma, ↓reduceIte, Nat.reduceEqDiff, Nat.reduceAdd, Nat.reduceSub, ↓Option.toList_some, ↓Option.toList_none, ↓List.cons_append, ↓List.nil_append, ↓kI_s, ↓kJ_s, ↓kN_s, ↓kO_s, ↓kZ_s, ↓kE_s, ↓an_rfl, ↓bt1 n00, ↓bt2 n00, ↓bf1 n10, ↓bf2 n10, ↓an_sz0, ↓an_sz1, ↓an_sz2, ↓an_sz3, ↓an_sz4, ↓an_ri, ↓an_rb0, ↓an_rb1, ↓an_b0, ↓an_b1, true_and, ↓ai_0s, ↓al_0s, ↓av_0s, ↓aq_0s, ↓ai_1s, ↓al_1s, ↓av_1s, ↓aq_1s, ↓ai_2s, ↓al_2s, ↓av_2s, ↓aq_2s, ↓ai_3s, ↓al_3s, ↓av_3s, ↓aq_3s, ↓ai_4s, ↓al_4s, ↓av_4s, ↓aq_4s, ↓ai_5s, ↓al_5s, ↓av_5s, ↓aq_5s, ↓ai_6s, ↓al_6s, ↓av_6s, ↓aq_6s, ↓ai_7s, ↓al_7s, ↓av_7s, ↓aq_7s, ↓an_l6, ↓bk_2010, ↓kp_2010_42, ↓kp_2010_242, ↓bf1 hc0, ↓bf2 hc0, ↓bf1 hc1, ↓bf2 hc1, ↓bt1 hc2, ↓bt2 hc2]
        exact hs
      · replace hs := bW_f hs hc2
        simp only [↓hG, ↓hJf, ↓px_vc, ↓px_ex, ↓px_jp, ↓px_gi, ↓px_gl, ↓px_gr, ↓px_s1, ↓px_s2, ↓px_nl, ↓px_i1, ↓px_l1, ↓r1_s, ↓px_q1, ↓px_i2, ↓px_l2, ↓px_il, ↓px_d0, ↓px_d1, ↓px_d2, ↓px_pop, ↓px_sp, ↓px_rd, ↓px_rf, ↓pn_xf, ↓px_pt, ↓px_sw, ↓pn_SW, ↓px_ma, ↓reduceIte, Nat.reduceEqDiff, Nat.reduceAdd, Nat.reduceSub, ↓Option.toList_some, ↓Option.toList_none, ↓List.cons_append, ↓List.nil_append, ↓kI_s, ↓kJ_s, ↓kN_s, ↓kO_s, ↓kZ_s, ↓kE_s, ↓an_rfl, ↓bt1 n00, ↓bt2 n00, ↓bf1 n10, ↓bf2 n10, ↓an_sz0, ↓an_sz1, ↓an_sz2, ↓an_sz3, ↓an_sz4, ↓an_ri, ↓an_rb0, ↓an_rb1, ↓an_b0, ↓an_b1, true_and, ↓ai_0s, ↓al_0s, ↓av_0s, ↓aq_0s, ↓ai_1s, ↓al_1s, ↓av_1s, ↓aq_1s, ↓ai_2s, ↓al_2s, ↓av_2s, ↓aq_2s, ↓ai_3s, ↓al_3s, ↓av_3s, ↓aq_3s, ↓ai_4s, ↓al_4s, ↓av_4s, ↓aq_4s, ↓ai_5s, ↓al_5s, ↓av_5s, ↓aq_5s, ↓ai_6s, ↓al_6s, ↓av_6s, ↓aq_6s, ↓ai_7s, ↓al_7s, ↓av_7s, ↓aq_7s, ↓an_l6, ↓bk_2010, ↓kp_2010_42, ↓kp_2010_242, ↓bf1 hc0, ↓bf2 hc0, ↓bf1 hc1, ↓bf2 hc1, ↓bf1 hc2, ↓bf2 hc2]
        exact hs
set_option maxHeartbeats 4000000 in
set_option maxRecDepth 100000 in
theorem rl_2010_9 {C : px_C} (hn : px_nd (px_tb C)) {h : Nat} (hh : 28 ≤ h) (hC : px_ok C pn_i2010 h) {k : Option px_V → px_M → Prop} {x0 : Nat} {x1 : Int32} {x2 : Int32} {σ : px_M} (hs : oW (f_2010_9 (px_tb C) σ x0 x1 x2) (fun τ => k none τ)) : ∀ (z3 : Option px_V) (z4 : Option px_V) (z5 : Option px_V), px_W C k 9 [some (.inr (.inr (some x0))), some (.inl x1), some (.inl x2), z3, z4, z5] [] σ := by
  intro z3 z4 z5
  refine px_runH (h - 1) ck_2010 [] [(21, kp_2010_21 (fun y0 y2 y3 τ => oW (f_2010_21 (px_tb C) y0 y2 y3 τ) (fun τ => k none τ)))] 80 6 none rfl rfl hC px_nosp (by omega) (px_cut1 (kq_2010_21 (fun y0 y2 y3 τ hq => by exact rl_2010_21 hn (by omega) hC (y3, τ) hq)) px_nocut) (fun G Jf hG hJf => ?_)
  unfold f_2010_9 at hs
  obtain ⟨hc0, hs⟩ := oW_gx hs
  simp only [↓hG, ↓hJf, ↓px_vc, ↓px_ex, ↓px_jp, ↓px_gi, ↓px_gl, ↓px_gr, ↓px_s1, ↓px_s2, ↓px_nl, ↓px_i1, ↓px_l1, ↓r1_s, ↓px_q1, ↓px_i2, ↓px_l2, ↓px_il, ↓px_d0, ↓px_d1, ↓px_d2, ↓px_pop, ↓px_sp, ↓px_rd, ↓px_rf, ↓pn_xf, ↓px_pt, ↓px_sw, ↓pn_SW, ↓px_ma, ↓reduceIte, Nat.reduceEqDiff, Nat.reduceAdd, Nat.reduceSub, ↓Option.toList_some, ↓Option.toList_none, ↓List.cons_append, ↓List.nil_append, ↓kI_s, ↓kJ_s, ↓kN_s, ↓kO_s, ↓kZ_s, ↓kE_s, ↓an_rfl, ↓bt1 n00, ↓bt2 n00, ↓bf1 n10, ↓bf2 n10, ↓an_sz0, ↓an_sz1, ↓an_sz2, ↓an_sz3, ↓an_sz4, ↓an_ri, ↓an_rb0, ↓an_rb1, ↓an_b0, ↓an_b1, true_and, ↓ai_0s, ↓al_0s, ↓av_0s, ↓aq_0s, ↓ai_1s, ↓al_1s, ↓av_1s, ↓aq_1s, ↓ai_2s, ↓al_2s, ↓av_2s, ↓aq_2s, ↓ai_3s, ↓al_3s, ↓av_3s, ↓aq_3s, ↓ai_4s, ↓al_4s, ↓av_4s, ↓aq_4s, ↓ai_5s, ↓al_5s, ↓av_5s, ↓aq_5s, ↓ai_6s, ↓al_6s, ↓av_6s, ↓aq_6s, ↓ai_7s, ↓al_7s, ↓av_7s, ↓aq_7s, ↓an_l6, ↓bk_2010, ↓kp_2010_21, ↓an_t hc0, ↓an_rv hc0]
  exact hs
set_option maxHeartbeats 4000000 in
set_option maxRecDepth 100000 in
theorem mf_2010 {tab : px_T} (hn : px_nd tab) {h : Nat} (hh : 28 ≤ h) : px_Ok tab pn_i2010 h (Sg_2010 (f_2010 tab)) := by
  refine px_mth hn (by decide +kernel) (fun av σ k hS => ?_) (fun C hT hC av σ k hS => ?_)
  · obtain ⟨x0, av0, e0, h0⟩ := av_0p hS
    obtain ⟨x1, av1, e1, h1⟩ := ai_1p h0
    obtain ⟨ez, hs⟩ := h1
    subst ez
    subst e1
    subst e0
    exact Nat.le_of_ble_eq_true rfl
  · obtain ⟨x0, av0, e0, h0⟩ := av_0p hS
    obtain ⟨x1, av1, e1, h1⟩ := ai_1p h0
    obtain ⟨ez, hs⟩ := h1
    subst ez
    subst e1
    subst e0
    subst hT
    show px_W C k 0 [some (.inr (.inr (some x0))), some (.inl x1), none, none, none, none] [] σ
    refine px_runH (h - 1) ck_2010 [] [(9, kp_2010_9 (fun y0 y1 y2 τ => oW (f_2010_9 (px_tb C) τ y0 y1 y2) (fun τ => k none τ)))] 80 6 none rfl rfl hC px_nosp (by omega) (px_cut1 (kq_2010_9 (fun y0 y1 y2 τ hq => by exact rl_2010_9 hn (by omega) hC  hq)) px_nocut) (fun G Jf hG hJf => ?_)
    unfold f_2010 at hs
    obtain ⟨hc0, hs⟩ := oW_gx hs
    simp only [↓hG, ↓hJf, ↓px_vc, ↓px_ex, ↓px_jp, ↓px_gi, ↓px_gl, ↓px_gr, ↓px_s1, ↓px_s2, ↓px_nl, ↓px_i1, ↓px_l1, ↓r1_s, ↓px_q1, ↓px_i2, ↓px_l2, ↓px_il, ↓px_d0, ↓px_d1, ↓px_d2, ↓px_pop, ↓px_sp, ↓px_rd, ↓px_rf, ↓pn_xf, ↓px_pt, ↓px_sw, ↓pn_SW, ↓px_ma, ↓reduceIte, Nat.reduceEqDiff, Nat.reduceAdd, Nat.reduceSub, ↓Option.toList_some, ↓Option.toList_none, ↓List.cons_append, ↓List.nil_append, ↓kI_s, ↓kJ_s, ↓kN_s, ↓kO_s, ↓kZ_s, ↓kE_s, ↓an_rfl, ↓bt1 n00, ↓bt2 n00, ↓bf1 n10, ↓bf2 n10, ↓an_sz0, ↓an_sz1, ↓an_sz2, ↓an_sz3, ↓an_sz4, ↓an_ri, ↓an_rb0, ↓an_rb1, ↓an_b0, ↓an_b1, true_and, ↓ai_0s, ↓al_0s, ↓av_0s, ↓aq_0s, ↓ai_1s, ↓al_1s, ↓av_1s, ↓aq_1s, ↓ai_2s, ↓al_2s, ↓av_2s, ↓aq_2s, ↓ai_3s, ↓al_3s, ↓av_3s, ↓aq_3s, ↓ai_4s, ↓al_4s, ↓av_4s, ↓aq_4s, ↓ai_5s, ↓al_5s, ↓av_5s, ↓aq_5s, ↓ai_6s, ↓al_6s, ↓av_6s, ↓aq_6s, ↓ai_7s, ↓al_7s, ↓av_7s, ↓aq_7s, ↓an_l6, ↓bk_2010, ↓kp_2010_9, ↓an_t hc0, ↓an_rv hc0]
    exact hs
def Sg_2012 (g : px_M → Nat → Int32 → Int32 → Option (Int32)) : px_S := fun av σ k => av_0 av (fun x0 av => ai_1 av (fun x1 av => ai_2 av (fun x2 av => av = [] ∧ oW (g σ x0 x1 x2) (fun r => k (some (.inl r)) σ))))
/-- NoThree$Council.meaning(II)I -/
noncomputable def f_2012_22 (tab : px_T) (σ : px_M) (x0 : Nat) (x3 : Int32) : Option (Int32) := if x3 < nI 0 then (some ((nI 0))) else (gd (px_obj (px_lay tab x0) 2) ((((σ).2.2 x0 4)).bind fun n1 => oA (px_lay tab n1) fun t2 l3 => gd (t2 < 12) (if (nI l3) ≤ x3 then (some ((nI 0))) else (gd (t2 = 0 ∨ t2 = 11) (gd (vp_in x3 l3) (some ((px_av t2 σ n1 (x3).toNatClampNeg))))))))
noncomputable def f_2012 (tab : px_T) (σ : px_M) (x0 : Nat) (x1 : Int32) (x2 : Int32) : Option (Int32) := if (nI 1004) ≤ x1 then (f_2012_22 tab σ x0 ((((x1 - (nI 1000)) * (nI 11)) + (nI 0)))) else (f_2012_22 tab σ x0 ((((x1 - (nI 1000)) * (nI 11)) + x2)))
def kp_2012_22 (Q : Nat → Int32 → px_M → Prop) : px_P := fun ls st τ => st = [] ∧ kN ls (fun x0 ls => kZ ls (fun ls => kZ ls (fun ls => kI ls (fun x3 ls => kE ls (Q x0 x3 τ)))))
theorem kq_2012_22 {C : px_C} {k : Option px_V → px_M → Prop} {Q : Nat → Int32 → px_M → Prop} (H : ∀ (x0 : Nat) (x3 : Int32) (τ : px_M), Q x0 x3 τ → ∀ (z1 : Option px_V) (z2 : Option px_V), px_W C k 22 [some (.inr (.inr (some x0))), z1, z2, some (.inl x3)] [] τ) : ∀ ls st τ, kp_2012_22 Q ls st τ → px_W C k 22 ls st τ := by
  intro ls st τ hz
  obtain ⟨ez, h0⟩ := hz
  obtain ⟨x0, l0, e0, h1⟩ := kN_sp h0
  obtain ⟨z1, l1, e1, h2⟩ := kZ_sp h1
  obtain ⟨z2, l2, e2, h3⟩ := kZ_sp h2
  obtain ⟨x3, l3, e3, h4⟩ := kI_sp h3
  obtain ⟨ey, hy⟩ := kE_sp h4
  subst ez
  subst ey
  subst e3
  subst e2
  subst e1
  subst e0
  exact H x0 x3 τ hy z1 z2
set_option maxHeartbeats 4000000 in
set_option maxRecDepth 100000 in
theorem rl_2012_22 {C : px_C} (hn : px_nd (px_tb C)) {h : Nat} (hh : 1 ≤ h) (hC : px_ok C pn_i2012 h) {k : Option px_V → px_M → Prop} {x0 : Nat} {x3 : Int32} {σ : px_M} (hs : oW (f_2012_22 (px_tb C) σ x0 x3) (fun r => k (some (.inl r)) σ)) : ∀ (z1 : Option px_V) (z2 : Option px_V), px_W C k 22 [some (.inr (.inr (some x0))), z1, z2, some (.inl x3)] [] σ := by
  intro z1 z2
  refine px_runH (h - 1) ck_2012 [] [] 80 4 (some .int) rfl rfl hC px_nosp (by omega) px_nocut (fun G Jf hG hJf => ?_)
  unfold f_2012_22 at hs
  by_cases hc0 : x3 < nI 0
  · replace hs := oW_t hs hc0
    simp only [↓hG, ↓hJf, ↓px_vc, ↓px_ex, ↓px_jp, ↓px_gi, ↓px_gl, ↓px_gr, ↓px_s1, ↓px_s2, ↓px_nl, ↓px_i1, ↓px_l1, ↓r1_s, ↓px_q1, ↓px_i2, ↓px_l2, ↓px_il, ↓px_d0, ↓px_d1, ↓px_d2, ↓px_pop, ↓px_sp, ↓px_rd, ↓px_rf, ↓pn_xf, ↓px_pt, ↓px_sw, ↓pn_SW, ↓px_ma, ↓reduceIte, Nat.reduceEqDiff, Nat.reduceAdd, Nat.reduceSub, ↓Option.toList_some, ↓Option.toList_none, ↓List.cons_append, ↓List.nil_append, ↓kI_s, ↓kJ_s, ↓kN_s, ↓kO_s, ↓kZ_s, ↓kE_s, ↓an_rfl, ↓bt1 n00, ↓bt2 n00, ↓bf1 n10, ↓bf2 n10, ↓an_sz0, ↓an_sz1, ↓an_sz2, ↓an_sz3, ↓an_sz4, ↓an_ri, ↓an_rb0, ↓an_rb1, ↓an_b0, ↓an_b1, true_and, ↓ai_0s, ↓al_0s, ↓av_0s, ↓aq_0s, ↓ai_1s, ↓al_1s, ↓av_1s, ↓aq_1s, ↓ai_2s, ↓al_2s, ↓av_2s, ↓aq_2s, ↓ai_3s, ↓al_3s, ↓av_3s, ↓aq_3s, ↓ai_4s, ↓al_4s, ↓av_4s, ↓aq_4s, ↓ai_5s, ↓al_5s, ↓av_5s, ↓aq_5s, ↓ai_6s, ↓al_6s, ↓av_6s, ↓aq_6s, ↓ai_7s, ↓al_7s, ↓av_7s, ↓aq_7s, ↓an_l4, ↓bk_2012, ↓bt1 hc0, ↓bt2 hc0]
    rw [oW_some] at hs
    exact hs
  · replace hs := oW_f hs hc0
    obtain ⟨hc1, hs⟩ := oW_gx hs
    obtain ⟨n1, hc2, hs⟩ := oW_bx hs
    obtain ⟨t2, l3, hc3, hs⟩ := oW_ax hs
    obtain ⟨hc4, hs⟩ := oW_gx hs
    by_cases hc5 : (nI l3) ≤ x3
    · replace hs := oW_t hs hc5
      simp only [↓hG, ↓hJf, ↓px_vc, ↓px_ex, ↓px_jp, ↓px_gi, ↓px_gl, ↓px_gr, ↓px_s1, ↓px_s2, ↓px_nl, ↓px_i1, ↓px_l1, ↓r1_s, ↓px_q1, ↓px_i2, ↓px_l2, ↓px_il, ↓px_d0, ↓px_d1, ↓px_d2, ↓px_pop, ↓px_sp, ↓px_rd, ↓px_rf, ↓pn_xf, ↓px_pt, ↓px_sw, ↓pn_SW, ↓px_ma, ↓reduceIte, Nat.reduceEqDiff, Nat.reduceAdd, Nat.reduceSub, ↓Option.toList_some, ↓Option.toList_none, ↓List.cons_append, ↓List.nil_append, ↓kI_s, ↓kJ_s, ↓kN_s, ↓kO_s, ↓kZ_s, ↓kE_s, ↓an_rfl, ↓bt1 n00, ↓bt2 n00, ↓bf1 n10, ↓bf2 n10, ↓an_sz0, ↓an_sz1, ↓an_sz2, ↓an_sz3, ↓an_sz4, ↓an_ri, ↓an_rb0, ↓an_rb1, ↓an_b0, ↓an_b1, true_and, ↓ai_0s, ↓al_0s, ↓av_0s, ↓aq_0s, ↓ai_1s, ↓al_1s, ↓av_1s, ↓aq_1s, ↓ai_2s, ↓al_2s, ↓av_2s, ↓aq_2s, ↓ai_3s, ↓al_3s, ↓av_3s, ↓aq_3s, ↓ai_4s, ↓al_4s, ↓av_4s, ↓aq_4s, ↓ai_5s, ↓al_5s, ↓av_5s, ↓aq_5s, ↓ai_6s, ↓al_6s, ↓av_6s, ↓aq_6s, ↓ai_7s, ↓al_7s, ↓av_7s, ↓aq_7s, ↓an_l4, ↓bk_2012, ↓bf1 hc0, ↓bf2 hc0, ↓an_t hc1, ↓an_rv hc1, ↓r1_e hc2, ↓av_0e hc2, ↓av_1e hc2, ↓av_2e hc2, ↓av_3e hc2, ↓ar_e hc3, ↓an_t hc4, ↓bt1 hc5, ↓bt2 hc5]
      rw [oW_some] at hs
      exact hs
    · replace hs := oW_f hs hc5
      obtain ⟨hc6, hs⟩ := oW_gx hs
      obtain ⟨hc7, hs⟩ := oW_gx hs
      simp only [↓hG, ↓hJf, ↓px_vc, ↓px_ex, ↓px_jp, ↓px_gi, ↓px_gl, ↓px_gr, ↓px_s1, ↓px_s2, ↓px_nl, ↓px_i1, ↓px_l1, ↓r1_s, ↓px_q1, ↓px_i2, ↓px_l2, ↓px_il, ↓px_d0, ↓px_d1, ↓px_d2, ↓px_pop, ↓px_sp, ↓px_rd, ↓px_rf, ↓pn_xf, ↓px_pt, ↓px_sw, ↓pn_SW, ↓px_ma, ↓reduceIte, Nat.reduceEqDiff, Nat.reduceAdd, Nat.reduceSub, ↓Option.toList_some, ↓Option.toList_none, ↓List.cons_append, ↓List.nil_append, ↓kI_s, ↓kJ_s, ↓kN_s, ↓kO_s, ↓kZ_s, ↓kE_s, ↓an_rfl, ↓bt1 n00, ↓bt2 n00, ↓bf1 n10, ↓bf2 n10, ↓an_sz0, ↓an_sz1, ↓an_sz2, ↓an_sz3, ↓an_sz4, ↓an_ri, ↓an_rb0, ↓an_rb1, ↓an_b0, ↓an_b1, true_and, ↓ai_0s, ↓al_0s, ↓av_0s, ↓aq_0s, ↓ai_1s, ↓al_1s, ↓av_1s, ↓aq_1s, ↓ai_2s, ↓al_2s, ↓av_2s, ↓aq_2s, ↓ai_3s, ↓al_3s, ↓av_3s, ↓aq_3s, ↓ai_4s, ↓al_4s, ↓av_4s, ↓aq_4s, ↓ai_5s, ↓al_5s, ↓av_5s, ↓aq_5s, ↓ai_6s, ↓al_6s, ↓av_6s, ↓aq_6s, ↓ai_7s, ↓al_7s, ↓av_7s, ↓aq_7s, ↓an_l4, ↓bk_2012, ↓bf1 hc0, ↓bf2 hc0, ↓an_t hc1, ↓an_rv hc1, ↓r1_e hc2, ↓av_0e hc2, ↓av_1e hc2, ↓av_2e hc2, ↓av_3e hc2, ↓ar_e hc3, ↓an_t hc4, ↓bf1 hc5, ↓bf2 hc5, ↓an_t hc6, ↓an_t hc7]
      rw [oW_some] at hs
      exact hs
set_option maxHeartbeats 4000000 in
set_option maxRecDepth 100000 in
theorem mf_2012 {tab : px_T} (hn : px_nd tab) {h : Nat} (hh : 1 ≤ h) : px_Ok tab pn_i2012 h (Sg_2012 (f_2012 tab)) := by
  refine px_mth hn (by decide +kernel) (fun av σ k hS => ?_) (fun C hT hC av σ k hS => ?_)
  · obtain ⟨x0, av0, e0, h0⟩ := av_0p hS
    obtain ⟨x1, av1, e1, h1⟩ := ai_1p h0
    obtain ⟨x2, av2, e2, h2⟩ := ai_2p h1
    obtain ⟨ez, hs⟩ := h2
    subst ez
    subst e2
    subst e1
    subst e0
    exact Nat.le_of_ble_eq_true rfl
  · obtain ⟨x0, av0, e0, h0⟩ := av_0p hS
    obtain ⟨x1, av1, e1, h1⟩ := ai_1p h0
    obtain ⟨x2, av2, e2, h2⟩ := ai_2p h1
    obtain ⟨ez, hs⟩ := h2
    subst ez
    subst e2
    subst e1
    subst e0
    subst hT
    show px_W C k 0 [some (.inr (.inr (some x0))), some (.inl x1), some (.inl x2), none] [] σ
    refine px_runH (h - 1) ck_2012 [] [(22, kp_2012_22 (fun y0 y3 τ => τ = σ ∧ oW (f_2012_22 (px_tb C) τ y0 y3) (fun r => k (some (.inl r)) σ)))] 80 4 (some .int) rfl rfl hC px_nosp (by omega) (px_cut1 (kq_2012_22 (fun y0 y3 τ hq => by obtain ⟨rfl, hq⟩ := hq; exact rl_2012_22 hn (by omega) hC  hq)) px_nocut) (fun G Jf hG hJf => ?_)
    unfold f_2012 at hs
    by_cases hc0 : (nI 1004) ≤ x1
    · replace hs := oW_t hs hc0
      simp only [↓hG, ↓hJf, ↓px_vc, ↓px_ex, ↓px_jp, ↓px_gi, ↓px_gl, ↓px_gr, ↓px_s1, ↓px_s2, ↓px_nl, ↓px_i1, ↓px_l1, ↓r1_s, ↓px_q1, ↓px_i2, ↓px_l2, ↓px_il, ↓px_d0, ↓px_d1, ↓px_d2, ↓px_pop, ↓px_sp, ↓px_rd, ↓px_rf, ↓pn_xf, ↓px_pt, ↓px_sw, ↓pn_SW, ↓px_ma, ↓reduceIte, Nat.reduceEqDiff, Nat.reduceAdd, Nat.reduceSub, ↓Option.toList_some, ↓Option.toList_none, ↓List.cons_append, ↓List.nil_append, ↓kI_s, ↓kJ_s, ↓kN_s, ↓kO_s, ↓kZ_s, ↓kE_s, ↓an_rfl, ↓bt1 n00, ↓bt2 n00, ↓bf1 n10, ↓bf2 n10, ↓an_sz0, ↓an_sz1, ↓an_sz2, ↓an_sz3, ↓an_sz4, ↓an_ri, ↓an_rb0, ↓an_rb1, ↓an_b0, ↓an_b1, true_and, ↓ai_0s, ↓al_0s, ↓av_0s, ↓aq_0s, ↓ai_1s, ↓al_1s, ↓av_1s, ↓aq_1s, ↓ai_2s, ↓al_2s, ↓av_2s, ↓aq_2s, ↓ai_3s, ↓al_3s, ↓av_3s, ↓aq_3s, ↓ai_4s, ↓al_4s, ↓av_4s, ↓aq_4s, ↓ai_5s, ↓al_5s, ↓av_5s, ↓aq_5s, ↓ai_6s, ↓al_6s, ↓av_6s, ↓aq_6s, ↓ai_7s, ↓al_7s, ↓av_7s, ↓aq_7s, ↓an_l4, ↓bk_2012, ↓kp_2012_22, ↓bt1 hc0, ↓bt2 hc0]
      exact hs
    · replace hs := oW_f hs hc0
      simp only [↓hG, ↓hJf, ↓px_vc, ↓px_ex, ↓px_jp, ↓px_gi, ↓px_gl, ↓px_gr, ↓px_s1, ↓px_s2, ↓px_nl, ↓px_i1, ↓px_l1, ↓r1_s, ↓px_q1, ↓px_i2, ↓px_l2, ↓px_il, ↓px_d0, ↓px_d1, ↓px_d2, ↓px_pop, ↓px_sp, ↓px_rd, ↓px_rf, ↓pn_xf, ↓px_pt, ↓px_sw, ↓pn_SW, ↓px_ma, ↓reduceIte, Nat.reduceEqDiff, Nat.reduceAdd, Nat.reduceSub, ↓Option.toList_some, ↓Option.toList_none, ↓List.cons_append, ↓List.nil_append, ↓kI_s, ↓kJ_s, ↓kN_s, ↓kO_s, ↓kZ_s, ↓kE_s, ↓an_rfl, ↓bt1 n00, ↓bt2 n00, ↓bf1 n10, ↓bf2 n10, ↓an_sz0, ↓an_sz1, ↓an_sz2, ↓an_sz3, ↓an_sz4, ↓an_ri, ↓an_rb0, ↓an_rb1, ↓an_b0, ↓an_b1, true_and, ↓ai_0s, ↓al_0s, ↓av_0s, ↓aq_0s, ↓ai_1s, ↓al_1s, ↓av_1s, ↓aq_1s, ↓ai_2s, ↓al_2s, ↓av_2s, ↓aq_2s, ↓ai_3s, ↓al_3s, ↓av_3s, ↓aq_3s, ↓ai_4s, ↓al_4s, ↓av_4s, ↓aq_4s, ↓ai_5s, ↓al_5s, ↓av_5s, ↓aq_5s, ↓ai_6s, ↓al_6s, ↓av_6s, ↓aq_6s, ↓ai_7s, ↓al_7s, ↓av_7s, ↓aq_7s, ↓an_l4, ↓bk_2012, ↓kp_2012_22, ↓bf1 hc0, ↓bf2 hc0]
      exact hs
def Sg_2015 (g : px_M → Int64 → Option (Int32)) : px_S := fun av σ k => al_0 av (fun x0 av => av = [] ∧ oW (g σ x0) (fun r => k (some (.inl r)) σ))
/-- NoThree$Council.kept(J)I -/
noncomputable def f_2015 (tab : px_T) (σ : px_M) (x0 : Int64) : Option (Int32) := some (((if (if x0 < (lN 1000000) then x0 else (lN 1000000)) < (-1000000) then (-1000000) else (if x0 < (lN 1000000) then x0 else (lN 1000000)))).toInt32)
set_option maxHeartbeats 4000000 in
set_option maxRecDepth 100000 in
theorem mf_2015 {tab : px_T} (hn : px_nd tab) {h : Nat} (hh : 1 ≤ h) : px_Ok tab pn_i2015 h (Sg_2015 (f_2015 tab)) := by
  refine px_mth hn (by decide +kernel) (fun av σ k hS => ?_) (fun C hT hC av σ k hS => ?_)
  · obtain ⟨x0, av0, e0, h0⟩ := al_0p hS
    obtain ⟨ez, hs⟩ := h0
    subst ez
    subst e0
    exact Nat.le_of_ble_eq_true rfl
  · obtain ⟨x0, av0, e0, h0⟩ := al_0p hS
    obtain ⟨ez, hs⟩ := h0
    subst ez
    subst e0
    subst hT
    show px_W C k 0 [some (.inr (.inl x0)), none] [] σ
    refine px_runH (h - 1) ck_2015 [] [] 80 2 (some .int) rfl rfl hC px_nosp (by omega) px_nocut (fun G Jf hG hJf => ?_)
    unfold f_2015 at hs
    simp only [↓hG, ↓hJf, ↓px_vc, ↓px_ex, ↓px_jp, ↓px_gi, ↓px_gl, ↓px_gr, ↓px_s1, ↓px_s2, ↓px_nl, ↓px_i1, ↓px_l1, ↓r1_s, ↓px_q1, ↓px_i2, ↓px_l2, ↓px_il, ↓px_d0, ↓px_d1, ↓px_d2, ↓px_pop, ↓px_sp, ↓px_rd, ↓px_rf, ↓pn_xf, ↓px_pt, ↓px_sw, ↓pn_SW, ↓px_ma, ↓reduceIte, Nat.reduceEqDiff, Nat.reduceAdd, Nat.reduceSub, ↓Option.toList_some, ↓Option.toList_none, ↓List.cons_append, ↓List.nil_append, ↓kI_s, ↓kJ_s, ↓kN_s, ↓kO_s, ↓kZ_s, ↓kE_s, ↓an_rfl, ↓bt1 n00, ↓bt2 n00, ↓bf1 n10, ↓bf2 n10, ↓an_sz0, ↓an_sz1, ↓an_sz2, ↓an_sz3, ↓an_sz4, ↓an_ri, ↓an_rb0, ↓an_rb1, ↓an_b0, ↓an_b1, true_and, ↓ai_0s, ↓al_0s, ↓av_0s, ↓aq_0s, ↓ai_1s, ↓al_1s, ↓av_1s, ↓aq_1s, ↓ai_2s, ↓al_2s, ↓av_2s, ↓aq_2s, ↓ai_3s, ↓al_3s, ↓av_3s, ↓aq_3s, ↓ai_4s, ↓al_4s, ↓av_4s, ↓aq_4s, ↓ai_5s, ↓al_5s, ↓av_5s, ↓aq_5s, ↓ai_6s, ↓al_6s, ↓av_6s, ↓aq_6s, ↓ai_7s, ↓al_7s, ↓av_7s, ↓aq_7s, ↓an_l2, ↓bk_2015]
    rw [oW_some] at hs
    exact hs
def Sg_2014 (g : px_M → Int32 → Int32 → Int32 → Option (Int32)) : px_S := fun av σ k => ai_0 av (fun x0 av => ai_1 av (fun x1 av => ai_2 av (fun x2 av => av = [] ∧ oW (g σ x0 x1 x2) (fun r => k (some (.inl r)) σ))))
/-- NoThree$Council.worked(III)I -/
noncomputable def f_2014 (tab : px_T) (σ : px_M) (x0 : Int32) (x1 : Int32) (x2 : Int32) : Option (Int32) := if x0 = nI 2000 then ((f_2015 tab σ (((x1).toInt64 + (x2).toInt64))).bind fun r1 => some (r1)) else (if x0 = nI 2001 then ((f_2015 tab σ (((x1).toInt64 - (x2).toInt64))).bind fun r2 => some (r2)) else (if x0 = nI 2002 then ((f_2015 tab σ (((x1).toInt64 * (x2).toInt64))).bind fun r3 => some (r3)) else (if x0 = nI 2003 then (bn (x1 = x2) (some ((nI 0))) (some ((nI 1)))) else (if x0 = nI 2004 then (if x2 ≤ x1 then (some ((nI 0))) else (some ((nI 1)))) else (if x0 = nI 2005 then (if x1 ≤ x2 then (some ((nI 0))) else (some ((nI 1)))) else (if x0 = nI 2006 then (some ((x1 ||| x2))) else (if x0 = nI 2007 then (some ((x1 &&& x2))) else (some ((x1 ||| x2))))))))))
set_option maxHeartbeats 4000000 in
set_option maxRecDepth 100000 in
theorem mf_2014 {tab : px_T} (hn : px_nd tab) {h : Nat} (hh : 2 ≤ h) : px_Ok tab pn_i2014 h (Sg_2014 (f_2014 tab)) := by
  refine px_mth hn (by decide +kernel) (fun av σ k hS => ?_) (fun C hT hC av σ k hS => ?_)
  · obtain ⟨x0, av0, e0, h0⟩ := ai_0p hS
    obtain ⟨x1, av1, e1, h1⟩ := ai_1p h0
    obtain ⟨x2, av2, e2, h2⟩ := ai_2p h1
    obtain ⟨ez, hs⟩ := h2
    subst ez
    subst e2
    subst e1
    subst e0
    exact Nat.le_of_ble_eq_true rfl
  · obtain ⟨x0, av0, e0, h0⟩ := ai_0p hS
    obtain ⟨x1, av1, e1, h1⟩ := ai_1p h0
    obtain ⟨x2, av2, e2, h2⟩ := ai_2p h1
    obtain ⟨ez, hs⟩ := h2
    subst ez
    subst e2
    subst e1
    subst e0
    subst hT
    show px_W C k 0 [some (.inl x0), some (.inl x1), some (.inl x2)] [] σ
    refine px_runH (h - 1) ck_2014 [(2015, Sg_2015 (f_2015 (px_tb C)))] [] 80 3 (some .int) rfl rfl hC (px_sp1 (mf_2015 hn (by omega)) px_nosp) (by omega) px_nocut (fun G Jf hG hJf => ?_)
    unfold f_2014 at hs
    by_cases hc0 : x0 = nI 2000
    · replace hs := oW_t hs hc0
      obtain ⟨r1, hc1, hs⟩ := oW_bx hs
      simp only [↓hG, ↓hJf, ↓px_vc, ↓px_ex, ↓px_jp, ↓px_gi, ↓px_gl, ↓px_gr, ↓px_s1, ↓px_s2, ↓px_nl, ↓px_i1, ↓px_l1, ↓r1_s, ↓px_q1, ↓px_i2, ↓px_l2, ↓px_il, ↓px_d0, ↓px_d1, ↓px_d2, ↓px_pop, ↓px_sp, ↓px_rd, ↓px_rf, ↓pn_xf, ↓px_pt, ↓px_sw, ↓pn_SW, ↓px_ma, ↓reduceIte, Nat.reduceEqDiff, Nat.reduceAdd, Nat.reduceSub, ↓Option.toList_some, ↓Option.toList_none, ↓List.cons_append, ↓List.nil_append, ↓kI_s, ↓kJ_s, ↓kN_s, ↓kO_s, ↓kZ_s, ↓kE_s, ↓an_rfl, ↓bt1 n00, ↓bt2 n00, ↓bf1 n10, ↓bf2 n10, ↓an_sz0, ↓an_sz1, ↓an_sz2, ↓an_sz3, ↓an_sz4, ↓an_ri, ↓an_rb0, ↓an_rb1, ↓an_b0, ↓an_b1, true_and, ↓ai_0s, ↓al_0s, ↓av_0s, ↓aq_0s, ↓ai_1s, ↓al_1s, ↓av_1s, ↓aq_1s, ↓ai_2s, ↓al_2s, ↓av_2s, ↓aq_2s, ↓ai_3s, ↓al_3s, ↓av_3s, ↓aq_3s, ↓ai_4s, ↓al_4s, ↓av_4s, ↓aq_4s, ↓ai_5s, ↓al_5s, ↓av_5s, ↓aq_5s, ↓ai_6s, ↓al_6s, ↓av_6s, ↓aq_6s, ↓ai_7s, ↓al_7s, ↓av_7s, ↓aq_7s, ↓an_l3, ↓bk_2014, ↓Sg_2015, ↓bt1 hc0, ↓bt2 hc0, ↓oW_e hc1]
      rw [oW_some] at hs
      exact hs
    · replace hs := oW_f hs hc0
      by_cases hc1 : x0 = nI 2001
      · replace hs := oW_t hs hc1
        obtain ⟨r2, hc2, hs⟩ := oW_bx hs
        simp only [↓hG, ↓hJf, ↓px_vc, ↓px_ex, ↓px_jp, ↓px_gi, ↓px_gl, ↓px_gr, ↓px_s1, ↓px_s2, ↓px_nl, ↓px_i1, ↓px_l1, ↓r1_s, ↓px_q1, ↓px_i2, ↓px_l2, ↓px_il, ↓px_d0, ↓px_d1, ↓px_d2, ↓px_pop, ↓px_sp, ↓px_rd, ↓px_rf, ↓pn_xf, ↓px_pt, ↓px_sw, ↓pn_SW, ↓px_ma, ↓reduceIte, Nat.reduceEqDiff, Nat.reduceAdd, Nat.reduceSub, ↓Option.toList_some, ↓Option.toList_none, ↓List.cons_append, ↓List.nil_append, ↓kI_s, ↓kJ_s, ↓kN_s, ↓kO_s, ↓kZ_s, ↓kE_s, ↓an_rfl, ↓bt1 n00, ↓bt2 n00, ↓bf1 n10, ↓bf2 n10, ↓an_sz0, ↓an_sz1, ↓an_sz2, ↓an_sz3, ↓an_sz4, ↓an_ri, ↓an_rb0, ↓an_rb1, ↓an_b0, ↓an_b1, true_and, ↓ai_0s, ↓al_0s, ↓av_0s, ↓aq_0s, ↓ai_1s, ↓al_1s, ↓av_1s, ↓aq_1s, ↓ai_2s, ↓al_2s, ↓av_2s, ↓aq_2s, ↓ai_3s, ↓al_3s, ↓av_3s, ↓aq_3s, ↓ai_4s, ↓al_4s, ↓av_4s, ↓aq_4s, ↓ai_5s, ↓al_5s, ↓av_5s, ↓aq_5s, ↓ai_6s, ↓al_6s, ↓av_6s, ↓aq_6s, ↓ai_7s, ↓al_7s, ↓av_7s, ↓aq_7s, ↓an_l3, ↓bk_2014, ↓Sg_2015, ↓bf1 hc0, ↓bf2 hc0, ↓bt1 hc1, ↓bt2 hc1, ↓oW_e hc2]
        rw [oW_some] at hs
        exact hs
      · replace hs := oW_f hs hc1
        by_cases hc2 : x0 = nI 2002
        · replace hs := oW_t hs hc2
          obtain ⟨r3, hc3, hs⟩ := oW_bx hs
          simp only [↓hG, ↓hJf, ↓px_vc, ↓px_ex, ↓px_jp, ↓px_gi, ↓px_gl, ↓px_gr, ↓px_s1, ↓px_s2, ↓px_nl, ↓px_i1, ↓px_l1, ↓r1_s, ↓px_q1, ↓px_i2, ↓px_l2, ↓px_il, ↓px_d0, ↓px_d1, ↓px_d2, ↓px_pop, ↓px_sp, ↓px_rd, ↓px_rf, ↓pn_xf, ↓px_pt, ↓px_sw, ↓pn_SW, ↓px_ma, ↓reduceIte, Nat.reduceEqDiff, Nat.reduceAdd, Nat.reduceSub, ↓Option.toList_some, ↓Option.toList_none, ↓List.cons_append, ↓List.nil_append, ↓kI_s, ↓kJ_s, ↓kN_s, ↓kO_s, ↓kZ_s, ↓kE_s, ↓an_rfl, ↓bt1 n00, ↓bt2 n00, ↓bf1 n10, ↓bf2 n10, ↓an_sz0, ↓an_sz1, ↓an_sz2, ↓an_sz3, ↓an_sz4, ↓an_ri, ↓an_rb0, ↓an_rb1, ↓an_b0, ↓an_b1, true_and, ↓ai_0s, ↓al_0s, ↓av_0s, ↓aq_0s, ↓ai_1s, ↓al_1s, ↓av_1s, ↓aq_1s, ↓ai_2s, ↓al_2s, ↓av_2s, ↓aq_2s, ↓ai_3s, ↓al_3s, ↓av_3s, ↓aq_3s, ↓ai_4s, ↓al_4s, ↓av_4s, ↓aq_4s, ↓ai_5s, ↓al_5s, ↓av_5s, ↓aq_5s, ↓ai_6s, ↓al_6s, ↓av_6s, ↓aq_6s, ↓ai_7s, ↓al_7s, ↓av_7s, ↓aq_7s, ↓an_l3, ↓bk_2014, ↓Sg_2015, ↓bf1 hc0, ↓bf2 hc0, ↓bf1 hc1, ↓bf2 hc1, ↓bt1 hc2, ↓bt2 hc2, ↓oW_e hc3]
          rw [oW_some] at hs
          exact hs
        · replace hs := oW_f hs hc2
          by_cases hc3 : x0 = nI 2003
          · replace hs := oW_t hs hc3
            by_cases hc4 : x1 = x2
            · replace hs := bW_t hs hc4
              simp only [↓hG, ↓hJf, ↓px_vc, ↓px_ex, ↓px_jp, ↓px_gi, ↓px_gl, ↓px_gr, ↓px_s1, ↓px_s2, ↓px_nl, ↓px_i1, ↓px_l1, ↓r1_s, ↓px_q1, ↓px_i2, ↓px_l2, ↓px_il, ↓px_d0, ↓px_d1, ↓px_d2, ↓px_pop, ↓px_sp, ↓px_rd, ↓px_rf, ↓pn_xf, ↓px_pt, ↓px_sw, ↓pn_SW, ↓px_ma, ↓reduceIte, Nat.reduceEqDiff, Nat.reduceAdd, Nat.reduceSub, ↓Option.toList_some, ↓Option.toList_none, ↓List.cons_append, ↓List.nil_append, ↓kI_s, ↓kJ_s, ↓kN_s, ↓kO_s, ↓kZ_s, ↓kE_s, ↓an_rfl, ↓bt1 n00, ↓bt2 n00, ↓bf1 n10, ↓bf2 n10, ↓an_sz0, ↓an_sz1, ↓an_sz2, ↓an_sz3, ↓an_sz4, ↓an_ri, ↓an_rb0, ↓an_rb1, ↓an_b0, ↓an_b1, true_and, ↓ai_0s, ↓al_0s, ↓av_0s, ↓aq_0s, ↓ai_1s, ↓al_1s, ↓av_1s, ↓aq_1s, ↓ai_2s, ↓al_2s, ↓av_2s, ↓aq_2s, ↓ai_3s, ↓al_3s, ↓av_3s, ↓aq_3s, ↓ai_4s, ↓al_4s, ↓av_4s, ↓aq_4s, ↓ai_5s, ↓al_5s, ↓av_5s, ↓aq_5s, ↓ai_6s, ↓al_6s, ↓av_6s, ↓aq_6s, ↓ai_7s, ↓al_7s, ↓av_7s, ↓aq_7s, ↓an_l3, ↓bk_2014, ↓Sg_2015, ↓bf1 hc0, ↓bf2 hc0, ↓bf1 hc1, ↓bf2 hc1, ↓bf1 hc2, ↓bf2 hc2, ↓bt1 hc3, ↓bt2 hc3, ↓bt1 hc4, ↓bt2 hc4]
              rw [oW_some] at hs
              exact hs
            · replace hs := bW_f hs hc4
              simp only [↓hG, ↓hJf, ↓px_vc, ↓px_ex, ↓px_jp, ↓px_gi, ↓px_gl, ↓px_gr, ↓px_s1, ↓px_s2, ↓px_nl, ↓px_i1, ↓px_l1, ↓r1_s, ↓px_q1, ↓px_i2, ↓px_l2, ↓px_il, ↓px_d0, ↓px_d1, ↓px_d2, ↓px_pop, ↓px_sp, ↓px_rd, ↓px_rf, ↓pn_xf, ↓px_pt, ↓px_sw, ↓pn_SW, ↓px_ma, ↓reduceIte, Nat.reduceEqDiff, Nat.reduceAdd, Nat.reduceSub, ↓Option.toList_some, ↓Option.toList_none, ↓List.cons_append, ↓List.nil_append, ↓kI_s, ↓kJ_s, ↓kN_s, ↓kO_s, ↓kZ_s, ↓kE_s, ↓an_rfl, ↓bt1 n00, ↓bt2 n00, ↓bf1 n10, ↓bf2 n10, ↓an_sz0, ↓an_sz1, ↓an_sz2, ↓an_sz3, ↓an_sz4, ↓an_ri, ↓an_rb0, ↓an_rb1, ↓an_b0, ↓an_b1, true_and, ↓ai_0s, ↓al_0s, ↓av_0s, ↓aq_0s, ↓ai_1s, ↓al_1s, ↓av_1s, ↓aq_1s, ↓ai_2s, ↓al_2s, ↓av_2s, ↓aq_2s, ↓ai_3s, ↓al_3s, ↓av_3s, ↓aq_3s, ↓ai_4s, ↓al_4s, ↓av_4s, ↓aq_4s, ↓ai_5s, ↓al_5s, ↓av_5s, ↓aq_5s, ↓ai_6s, ↓al_6s, ↓av_6s, ↓aq_6s, ↓ai_7s, ↓al_7s, ↓av_7s, ↓aq_7s, ↓an_l3, ↓bk_2014, ↓Sg_2015, ↓bf1 hc0, ↓bf2 hc0, ↓bf1 hc1, ↓bf2 hc1, ↓bf1 hc2, ↓bf2 hc2, ↓bt1 hc3, ↓bt2 hc3, ↓bf1 hc4, ↓bf2 hc4]
              rw [oW_some] at hs
              exact hs
          · replace hs := oW_f hs hc3
            by_cases hc4 : x0 = nI 2004
            · replace hs := oW_t hs hc4
              by_cases hc5 : x2 ≤ x1
              · replace hs := oW_t hs hc5
                simp only [↓hG, ↓hJf, ↓px_vc, ↓px_ex, ↓px_jp, ↓px_gi, ↓px_gl, ↓px_gr, ↓px_s1, ↓px_s2, ↓px_nl, ↓px_i1, ↓px_l1, ↓r1_s, ↓px_q1, ↓px_i2, ↓px_l2, ↓px_il, ↓px_d0, ↓px_d1, ↓px_d2, ↓px_pop, ↓px_sp, ↓px_rd, ↓px_rf, ↓pn_xf, ↓px_pt, ↓px_sw, ↓pn_SW, ↓px_ma, ↓reduceIte, Nat.reduceEqDiff, Nat.reduceAdd, Nat.reduceSub, ↓Option.toList_some, ↓Option.toList_none, ↓List.cons_append, ↓List.nil_append, ↓kI_s, ↓kJ_s, ↓kN_s, ↓kO_s, ↓kZ_s, ↓kE_s, ↓an_rfl, ↓bt1 n00, ↓bt2 n00, ↓bf1 n10, ↓bf2 n10, ↓an_sz0, ↓an_sz1, ↓an_sz2, ↓an_sz3, ↓an_sz4, ↓an_ri, ↓an_rb0, ↓an_rb1, ↓an_b0, ↓an_b1, true_and, ↓ai_0s, ↓al_0s, ↓av_0s, ↓aq_0s, ↓ai_1s, ↓al_1s, ↓av_1s, ↓aq_1s, ↓ai_2s, ↓al_2s, ↓av_2s, ↓aq_2s, ↓ai_3s, ↓al_3s, ↓av_3s, ↓aq_3s, ↓ai_4s, ↓al_4s, ↓av_4s, ↓aq_4s, ↓ai_5s, ↓al_5s, ↓av_5s, ↓aq_5s, ↓ai_6s, ↓al_6s, ↓av_6s, ↓aq_6s, ↓ai_7s, ↓al_7s, ↓av_7s, ↓aq_7s, ↓an_l3, ↓bk_2014, ↓Sg_2015, ↓bf1 hc0, ↓bf2 hc0, ↓bf1 hc1, ↓bf2 hc1, ↓bf1 hc2, ↓bf2 hc2, ↓bf1 hc3, ↓bf2 hc3, ↓bt1 hc4, ↓bt2 hc4, ↓bt1 hc5, ↓bt2 hc5]
                rw [oW_some] at hs
                exact hs
              · replace hs := oW_f hs hc5
                simp only [↓hG, ↓hJf, ↓px_vc, ↓px_ex, ↓px_jp, ↓px_gi, ↓px_gl, ↓px_gr, ↓px_s1, ↓px_s2, ↓px_nl, ↓px_i1, ↓px_l1, ↓r1_s, ↓px_q1, ↓px_i2, ↓px_l2, ↓px_il, ↓px_d0, ↓px_d1, ↓px_d2, ↓px_pop, ↓px_sp, ↓px_rd, ↓px_rf, ↓pn_xf, ↓px_pt, ↓px_sw, ↓pn_SW, ↓px_ma, ↓reduceIte, Nat.reduceEqDiff, Nat.reduceAdd, Nat.reduceSub, ↓Option.toList_some, ↓Option.toList_none, ↓List.cons_append, ↓List.nil_append, ↓kI_s, ↓kJ_s, ↓kN_s, ↓kO_s, ↓kZ_s, ↓kE_s, ↓an_rfl, ↓bt1 n00, ↓bt2 n00, ↓bf1 n10, ↓bf2 n10, ↓an_sz0, ↓an_sz1, ↓an_sz2, ↓an_sz3, ↓an_sz4, ↓an_ri, ↓an_rb0, ↓an_rb1, ↓an_b0, ↓an_b1, true_and, ↓ai_0s, ↓al_0s, ↓av_0s, ↓aq_0s, ↓ai_1s, ↓al_1s, ↓av_1s, ↓aq_1s, ↓ai_2s, ↓al_2s, ↓av_2s, ↓aq_2s, ↓ai_3s, ↓al_3s, ↓av_3s, ↓aq_3s, ↓ai_4s, ↓al_4s, ↓av_4s, ↓aq_4s, ↓ai_5s, ↓al_5s, ↓av_5s, ↓aq_5s, ↓ai_6s, ↓al_6s, ↓av_6s, ↓aq_6s, ↓ai_7s, ↓al_7s, ↓av_7s, ↓aq_7s, ↓an_l3, ↓bk_2014, ↓Sg_2015, ↓bf1 hc0, ↓bf2 hc0, ↓bf1 hc1, ↓bf2 hc1, ↓bf1 hc2, ↓bf2 hc2, ↓bf1 hc3, ↓bf2 hc3, ↓bt1 hc4, ↓bt2 hc4, ↓bf1 hc5, ↓bf2 hc5]
                rw [oW_some] at hs
                exact hs
            · replace hs := oW_f hs hc4
              by_cases hc5 : x0 = nI 2005
              · replace hs := oW_t hs hc5
                by_cases hc6 : x1 ≤ x2
                · replace hs := oW_t hs hc6
                  simp only [↓hG, ↓hJf, ↓px_vc, ↓px_ex, ↓px_jp, ↓px_gi, ↓px_gl, ↓px_gr, ↓px_s1, ↓px_s2, ↓px_nl, ↓px_i1, ↓px_l1, ↓r1_s, ↓px_q1, ↓px_i2, ↓px_l2, ↓px_il, ↓px_d0, ↓px_d1, ↓px_d2, ↓px_pop, ↓px_sp, ↓px_rd, ↓px_rf, ↓pn_xf, ↓px_pt, ↓px_sw, ↓pn_SW, ↓px_ma, ↓reduceIte, Nat.reduceEqDiff, Nat.reduceAdd, Nat.reduceSub, ↓Option.toList_some, ↓Option.toList_none, ↓List.cons_append, ↓List.nil_append, ↓kI_s, ↓kJ_s, ↓kN_s, ↓kO_s, ↓kZ_s, ↓kE_s, ↓an_rfl, ↓bt1 n00, ↓bt2 n00, ↓bf1 n10, ↓bf2 n10, ↓an_sz0, ↓an_sz1, ↓an_sz2, ↓an_sz3, ↓an_sz4, ↓an_ri, ↓an_rb0, ↓an_rb1, ↓an_b0, ↓an_b1, true_and, ↓ai_0s, ↓al_0s, ↓av_0s, ↓aq_0s, ↓ai_1s, ↓al_1s, ↓av_1s, ↓aq_1s, ↓ai_2s, ↓al_2s, ↓av_2s, ↓aq_2s, ↓ai_3s, ↓al_3s, ↓av_3s, ↓aq_3s, ↓ai_4s, ↓al_4s, ↓av_4s, ↓aq_4s, ↓ai_5s, ↓al_5s, ↓av_5s, ↓aq_5s, ↓ai_6s, ↓al_6s, ↓av_6s, ↓aq_6s, ↓ai_7s, ↓al_7s, ↓av_7s, ↓aq_7s, ↓an_l3, ↓bk_2014, ↓Sg_2015, ↓bf1 hc0, ↓bf2 hc0, ↓bf1 hc1, ↓bf2 hc1, ↓bf1 hc2, ↓bf2 hc2, ↓bf1 hc3, ↓bf2 hc3, ↓bf1 hc4, ↓bf2 hc4, ↓bt1 hc5, ↓bt2 hc5, ↓bt1 hc6, ↓bt2 hc6]
                  rw [oW_some] at hs
                  exact hs
                · replace hs := oW_f hs hc6
                  simp only [↓hG, ↓hJf, ↓px_vc, ↓px_ex, ↓px_jp, ↓px_gi, ↓px_gl, ↓px_gr, ↓px_s1, ↓px_s2, ↓px_nl, ↓px_i1, ↓px_l1, ↓r1_s, ↓px_q1, ↓px_i2, ↓px_l2, ↓px_il, ↓px_d0, ↓px_d1, ↓px_d2, ↓px_pop, ↓px_sp, ↓px_rd, ↓px_rf, ↓pn_xf, ↓px_pt, ↓px_sw, ↓pn_SW, ↓px_ma, ↓reduceIte, Nat.reduceEqDiff, Nat.reduceAdd, Nat.reduceSub, ↓Option.toList_some, ↓Option.toList_none, ↓List.cons_append, ↓List.nil_append, ↓kI_s, ↓kJ_s, ↓kN_s, ↓kO_s, ↓kZ_s, ↓kE_s, ↓an_rfl, ↓bt1 n00, ↓bt2 n00, ↓bf1 n10, ↓bf2 n10, ↓an_sz0, ↓an_sz1, ↓an_sz2, ↓an_sz3, ↓an_sz4, ↓an_ri, ↓an_rb0, ↓an_rb1, ↓an_b0, ↓an_b1, true_and, ↓ai_0s, ↓al_0s, ↓av_0s, ↓aq_0s, ↓ai_1s, ↓al_1s, ↓av_1s, ↓aq_1s, ↓ai_2s, ↓al_2s, ↓av_2s, ↓aq_2s, ↓ai_3s, ↓al_3s, ↓av_3s, ↓aq_3s, ↓ai_4s, ↓al_4s, ↓av_4s, ↓aq_4s, ↓ai_5s, ↓al_5s, ↓av_5s, ↓aq_5s, ↓ai_6s, ↓al_6s, ↓av_6s, ↓aq_6s, ↓ai_7s, ↓al_7s, ↓av_7s, ↓aq_7s, ↓an_l3, ↓bk_2014, ↓Sg_2015, ↓bf1 hc0, ↓bf2 hc0, ↓bf1 hc1, ↓bf2 hc1, ↓bf1 hc2, ↓bf2 hc2, ↓bf1 hc3, ↓bf2 hc3, ↓bf1 hc4, ↓bf2 hc4, ↓bt1 hc5, ↓bt2 hc5, ↓bf1 hc6, ↓bf2 hc6]
                  rw [oW_some] at hs
                  exact hs
              · replace hs := oW_f hs hc5
                by_cases hc6 : x0 = nI 2006
                · replace hs := oW_t hs hc6
                  simp only [↓hG, ↓hJf, ↓px_vc, ↓px_ex, ↓px_jp, ↓px_gi, ↓px_gl, ↓px_gr, ↓px_s1, ↓px_s2, ↓px_nl, ↓px_i1, ↓px_l1, ↓r1_s, ↓px_q1, ↓px_i2, ↓px_l2, ↓px_il, ↓px_d0, ↓px_d1, ↓px_d2, ↓px_pop, ↓px_sp, ↓px_rd, ↓px_rf, ↓pn_xf, ↓px_pt, ↓px_sw, ↓pn_SW, ↓px_ma, ↓reduceIte, Nat.reduceEqDiff, Nat.reduceAdd, Nat.reduceSub, ↓Option.toList_some, ↓Option.toList_none, ↓List.cons_append, ↓List.nil_append, ↓kI_s, ↓kJ_s, ↓kN_s, ↓kO_s, ↓kZ_s, ↓kE_s, ↓an_rfl, ↓bt1 n00, ↓bt2 n00, ↓bf1 n10, ↓bf2 n10, ↓an_sz0, ↓an_sz1, ↓an_sz2, ↓an_sz3, ↓an_sz4, ↓an_ri, ↓an_rb0, ↓an_rb1, ↓an_b0, ↓an_b1, true_and, ↓ai_0s, ↓al_0s, ↓av_0s, ↓aq_0s, ↓ai_1s, ↓al_1s, ↓av_1s, ↓aq_1s, ↓ai_2s, ↓al_2s, ↓av_2s, ↓aq_2s, ↓ai_3s, ↓al_3s, ↓av_3s, ↓aq_3s, ↓ai_4s, ↓al_4s, ↓av_4s, ↓aq_4s, ↓ai_5s, ↓al_5s, ↓av_5s, ↓aq_5s, ↓ai_6s, ↓al_6s, ↓av_6s, ↓aq_6s, ↓ai_7s, ↓al_7s, ↓av_7s, ↓aq_7s, ↓an_l3, ↓bk_2014, ↓Sg_2015, ↓bf1 hc0, ↓bf2 hc0, ↓bf1 hc1, ↓bf2 hc1, ↓bf1 hc2, ↓bf2 hc2, ↓bf1 hc3, ↓bf2 hc3, ↓bf1 hc4, ↓bf2 hc4, ↓bf1 hc5, ↓bf2 hc5, ↓bt1 hc6, ↓bt2 hc6]
                  rw [oW_some] at hs
                  exact hs
                · replace hs := oW_f hs hc6
                  by_cases hc7 : x0 = nI 2007
                  · replace hs := oW_t hs hc7
                    simp only [↓hG, ↓hJf, ↓px_vc, ↓px_ex, ↓px_jp, ↓px_gi, ↓px_gl, ↓px_gr, ↓px_s1, ↓px_s2, ↓px_nl, ↓px_i1, ↓px_l1, ↓r1_s, ↓px_q1, ↓px_i2, ↓px_l2, ↓px_il, ↓px_d0, ↓px_d1, ↓px_d2, ↓px_pop, ↓px_sp, ↓px_rd, ↓px_rf, ↓pn_xf, ↓px_pt, ↓px_sw, ↓pn_SW, ↓px_ma, ↓reduceIte, Nat.reduceEqDiff, Nat.reduceAdd, Nat.reduceSub, ↓Option.toList_some, ↓Option.toList_none, ↓List.cons_append, ↓List.nil_append, ↓kI_s, ↓kJ_s, ↓kN_s, ↓kO_s, ↓kZ_s, ↓kE_s, ↓an_rfl, ↓bt1 n00, ↓bt2 n00, ↓bf1 n10, ↓bf2 n10, ↓an_sz0, ↓an_sz1, ↓an_sz2, ↓an_sz3, ↓an_sz4, ↓an_ri, ↓an_rb0, ↓an_rb1, ↓an_b0, ↓an_b1, true_and, ↓ai_0s, ↓al_0s, ↓av_0s, ↓aq_0s, ↓ai_1s, ↓al_1s, ↓av_1s, ↓aq_1s, ↓ai_2s, ↓al_2s, ↓av_2s, ↓aq_2s, ↓ai_3s, ↓al_3s, ↓av_3s, ↓aq_3s, ↓ai_4s, ↓al_4s, ↓av_4s, ↓aq_4s, ↓ai_5s, ↓al_5s, ↓av_5s, ↓aq_5s, ↓ai_6s, ↓al_6s, ↓av_6s, ↓aq_6s, ↓ai_7s, ↓al_7s, ↓av_7s, ↓aq_7s, ↓an_l3, ↓bk_2014, ↓Sg_2015, ↓bf1 hc0, ↓bf2 hc0, ↓bf1 hc1, ↓bf2 hc1, ↓bf1 hc2, ↓bf2 hc2, ↓bf1 hc3, ↓bf2 hc3, ↓bf1 hc4, ↓bf2 hc4, ↓bf1 hc5, ↓bf2 hc5, ↓bf1 hc6, ↓bf2 hc6, ↓bt1 hc7, ↓bt2 hc7]
                    rw [oW_some] at hs
                    exact hs
                  · replace hs := oW_f hs hc7
                    simp only [↓hG, ↓hJf, ↓px_vc, ↓px_ex, ↓px_jp, ↓px_gi, ↓px_gl, ↓px_gr, ↓px_s1, ↓px_s2, ↓px_nl, ↓px_i1, ↓px_l1, ↓r1_s, ↓px_q1, ↓px_i2, ↓px_l2, ↓px_il, ↓px_d0, ↓px_d1, ↓px_d2, ↓px_pop, ↓px_sp, ↓px_rd, ↓px_rf, ↓pn_xf, ↓px_pt, ↓px_sw, ↓pn_SW, ↓px_ma, ↓reduceIte, Nat.reduceEqDiff, Nat.reduceAdd, Nat.reduceSub, ↓Option.toList_some, ↓Option.toList_none, ↓List.cons_append, ↓List.nil_append, ↓kI_s, ↓kJ_s, ↓kN_s, ↓kO_s, ↓kZ_s, ↓kE_s, ↓an_rfl, ↓bt1 n00, ↓bt2 n00, ↓bf1 n10, ↓bf2 n10, ↓an_sz0, ↓an_sz1, ↓an_sz2, ↓an_sz3, ↓an_sz4, ↓an_ri, ↓an_rb0, ↓an_rb1, ↓an_b0, ↓an_b1, true_and, ↓ai_0s, ↓al_0s, ↓av_0s, ↓aq_0s, ↓ai_1s, ↓al_1s, ↓av_1s, ↓aq_1s, ↓ai_2s, ↓al_2s, ↓av_2s, ↓aq_2s, ↓ai_3s, ↓al_3s, ↓av_3s, ↓aq_3s, ↓ai_4s, ↓al_4s, ↓av_4s, ↓aq_4s, ↓ai_5s, ↓al_5s, ↓av_5s, ↓aq_5s, ↓ai_6s, ↓al_6s, ↓av_6s, ↓aq_6s, ↓ai_7s, ↓al_7s, ↓av_7s, ↓aq_7s, ↓an_l3, ↓bk_2014, ↓Sg_2015, ↓bf1 hc0, ↓bf2 hc0, ↓bf1 hc1, ↓bf2 hc1, ↓bf1 hc2, ↓bf2 hc2, ↓bf1 hc3, ↓bf2 hc3, ↓bf1 hc4, ↓bf2 hc4, ↓bf1 hc5, ↓bf2 hc5, ↓bf1 hc6, ↓bf2 hc6, ↓bf1 hc7, ↓bf2 hc7]
                    rw [oW_some] at hs
                    exact hs
