/-! shallow functions, printed by wip/whole/decomp.py -/
def Sg_28 (g : px_M → Nat → Int32 → Option (Int32 × px_M)) : px_S := fun av σ k => av_0 av (fun x0 av => ai_1 av (fun x1 av => av = [] ∧ oW (g σ x0 x1) (fun q => k (some (.inl q.1)) q.2)))
/-- NoThreeModel.town(I)I -/
noncomputable def F_28_220 (tab : px_T) (x0 : Nat) (x2 : Int32) (σ : px_M) : Option ((Int32 × px_M) ⊕ (Int32 × px_M)) := if (nI 1072) ≤ x2 then (gd (px_obj (px_lay tab x0) 0) ((((σ).2.2 x0 1)).bind fun n1 => oA (px_lay tab n1) fun t2 l3 => gd (t2 = 0 ∨ t2 = 11) (gd (vp_in (nI 0) l3) (some (.inr (((px_av t2 σ n1 ((nI 0)).toNatClampNeg), σ))))))) else (gd (px_obj (px_lay tab x0) 0) ((((σ).2.2 x0 4)).bind fun n4 => oA (px_lay tab n4) fun t5 l6 => gd (t5 = 0 ∨ t5 = 11) (gd (vp_in x2 l6) ((((σ).2.2 x0 1)).bind fun n7 => oA (px_lay tab n7) fun t8 l9 => gd (t8 = 0) (gd (vp_in x2 l9) (some (.inl (((x2 + (nI 1)), (px_wi σ n7 (x2).toNatClampNeg (px_av t5 σ n4 (x2).toNatClampNeg)))))))))))
noncomputable def f_28_220 (tab : px_T) (x0 : Nat) (x2 : Int32) (σ : px_M) : Option (Int32 × px_M) := lpO (fun s : Int32 × px_M => F_28_220 tab x0 s.1 s.2) (x2, σ)
theorem f_28_220_eq (tab : px_T) (x0 : Nat) (x2 : Int32) (σ : px_M) : f_28_220 tab x0 x2 σ = (F_28_220 tab x0 x2 σ).bind (Sum.elim (fun s => f_28_220 tab x0 s.1 s.2) some) := lpO_eq _ _
noncomputable def f_28_203 (tab : px_T) (σ : px_M) (x0 : Nat) : Option (Int32 × px_M) := gd (px_obj (px_lay tab x0) 0) (if ((σ).1 x0 11) = nI 0 then (f_28_220 tab x0 ((nI 0)) σ) else (some ((((-30) - ((σ).1 x0 11)), σ))))
noncomputable def f_28_176 (tab : px_T) (σ : px_M) (x0 : Nat) : Option (Int32 × px_M) := gd (px_obj (px_lay tab x0) 0) (bn ((((px_wi σ x0 13 ((σ).1 x0 11))).1 x0 11) = nI 0) (f_28_203 tab ((px_wi (px_wi σ x0 13 ((σ).1 x0 11)) x0 14 (((px_wi σ x0 13 ((σ).1 x0 11))).1 x0 12))) x0) (f_28_203 tab ((px_wi (px_wi σ x0 13 ((σ).1 x0 11)) x0 14 (-1))) x0))
noncomputable def f_28_163 (tab : px_T) (σ : px_M) (x0 : Nat) : Option ((px_M) ⊕ (Int32 × px_M)) := gd (px_obj (px_lay tab x0) 0) ((((σ).2.2 x0 4)).bind fun n1 => oA (px_lay tab n1) fun t2 l3 => gd (t2 = 0 ∨ t2 = 11) (gd (vp_in (nI 0) l3) (gd (t2 = 0) (some (.inl ((px_wi σ n1 ((nI 0)).toNatClampNeg ((px_av t2 σ n1 ((nI 0)).toNatClampNeg) + (nI 1)))))))))
noncomputable def f_28_149 (tab : px_T) (σ : px_M) (x0 : Nat) : Option ((px_M) ⊕ (Int32 × px_M)) := gd (px_obj (px_lay tab x0) 0) ((f_12 tab σ x0 ((nI 20))).bind fun q1 => bn (q1.1 = nI 0) (f_28_163 tab q1.2 x0) ((f_10 tab q1.2 x0 ((nI 2))).bind fun q2 => f_28_163 tab q2 x0))
noncomputable def f_28_129 (tab : px_T) (σ : px_M) (x0 : Nat) : Option ((px_M) ⊕ (Int32 × px_M)) := gd (px_obj (px_lay tab x0) 0) ((f_11 tab σ x0 ((nI 3))).bind fun r1 => if r1 = nI 0 then ((f_10 tab σ x0 ((nI 2))).bind fun q2 => f_28_149 tab q2 x0) else ((f_27 tab σ x0).bind fun q3 => f_28_149 tab q3 x0))
noncomputable def f_28_122 (tab : px_T) (σ : px_M) (x0 : Nat) : Option ((px_M) ⊕ (Int32 × px_M)) := gd (px_obj (px_lay tab x0) 0) ((f_18 tab σ x0).bind fun q1 => f_28_149 tab q1 x0)
noncomputable def f_28_99 (tab : px_T) (σ : px_M) (x0 : Nat) : Option ((px_M) ⊕ (Int32 × px_M)) := gd (px_obj (px_lay tab x0) 0) ((f_12 tab σ x0 ((nI 1))).bind fun q1 => if q1.1 = nI 0 then ((f_12 tab q1.2 x0 ((nI 2))).bind fun q2 => if q2.1 = nI 0 then (f_28_129 tab q2.2 x0) else (f_28_122 tab q2.2 x0)) else ((f_17 tab q1.2 x0).bind fun q3 => f_28_149 tab q3 x0))
noncomputable def f_28_92 (tab : px_T) (σ : px_M) (x0 : Nat) : Option ((px_M) ⊕ (Int32 × px_M)) := gd (px_obj (px_lay tab x0) 0) ((f_16 tab σ x0).bind fun q1 => f_28_149 tab q1 x0)
noncomputable def F_28_68 (tab : px_T) (x0 : Nat) (σ : px_M) : Option ((px_M) ⊕ (Int32 × px_M)) := gd (px_obj (px_lay tab x0) 0) (bn (((σ).1 x0 11) = nI 0) (Option.map Sum.inr (f_28_176 tab σ x0)) (if ((σ).1 x0 9) = (nI 17) then (Option.map Sum.inr (f_28_176 tab σ x0)) else ((f_12 tab σ x0 ((nI 0))).bind fun q1 => if q1.1 = nI 0 then (f_28_99 tab q1.2 x0) else (f_28_92 tab q1.2 x0))))
noncomputable def f_28_68 (tab : px_T) (x0 : Nat) (σ : px_M) : Option (Int32 × px_M) := lpO (fun s : px_M => F_28_68 tab x0 s) σ
theorem f_28_68_eq (tab : px_T) (x0 : Nat) (σ : px_M) : f_28_68 tab x0 σ = (F_28_68 tab x0 σ).bind (Sum.elim (fun s => f_28_68 tab x0 s) some) := lpO_eq _ _
noncomputable def F_28_44 (tab : px_T) (x0 : Nat) (x2 : Int32) (σ : px_M) : Option ((Int32 × px_M) ⊕ (Int32 × px_M)) := if (nI 1072) ≤ x2 then (gd (px_obj (px_lay tab x0) 0) ((f_9 tab σ x0).bind fun q1 => Option.map Sum.inr (f_28_68 tab x0 q1))) else (gd (px_obj (px_lay tab x0) 0) ((((σ).2.2 x0 4)).bind fun n2 => oA (px_lay tab n2) fun t3 l4 => gd (t3 = 0) (gd (vp_in x2 l4) (some (.inl (((x2 + (nI 1)), (px_wi σ n2 (x2).toNatClampNeg (nI 0)))))))))
noncomputable def f_28_44 (tab : px_T) (x0 : Nat) (x2 : Int32) (σ : px_M) : Option (Int32 × px_M) := lpO (fun s : Int32 × px_M => F_28_44 tab x0 s.1 s.2) (x2, σ)
theorem f_28_44_eq (tab : px_T) (x0 : Nat) (x2 : Int32) (σ : px_M) : f_28_44 tab x0 x2 σ = (F_28_44 tab x0 x2 σ).bind (Sum.elim (fun s => f_28_44 tab x0 s.1 s.2) some) := lpO_eq _ _
noncomputable def f_28_22 (tab : px_T) (σ : px_M) (x0 : Nat) (x1 : Int32) : Option (Int32 × px_M) := gd (px_obj (px_lay tab x0) 0) (f_28_44 tab x0 ((nI 0)) ((px_wi (px_wi (px_wi (px_wi σ x0 8 x1) x0 5 (nI 0)) x0 7 (nI 0)) x0 11 (nI 0))))
noncomputable def f_28_19 (tab : px_T) (σ : px_M) : Option (Int32 × px_M) := some (((-3), σ))
noncomputable def f_28 (tab : px_T) (σ : px_M) (x0 : Nat) (x1 : Int32) : Option (Int32 × px_M) := gd (px_obj (px_lay tab x0) 0) ((f_2 tab (px_wi σ x0 0 (nI 0)) ((x1).toInt64) ((lN 0)) (((((px_wi σ x0 0 (nI 0))).1 x0 5)).toInt64)).bind fun r1 => bn (r1 = nI 0) (f_28_22 tab ((px_wi σ x0 0 (nI 0))) x0 x1) (f_28_19 tab ((px_wi σ x0 0 (nI 0)))))
def kp_28_220 (Q : Nat → Int32 → px_M → Prop) : px_P := fun ls st τ => st = [] ∧ kN ls (fun x0 ls => kZ ls (fun ls => kI ls (fun x2 ls => kE ls (Q x0 x2 τ))))
theorem kq_28_220 {C : px_C} {k : Option px_V → px_M → Prop} {Q : Nat → Int32 → px_M → Prop} (H : ∀ (x0 : Nat) (x2 : Int32) (τ : px_M), Q x0 x2 τ → ∀ (z1 : Option px_V), px_W C k 220 [some (.inr (.inr (some x0))), z1, some (.inl x2)] [] τ) : ∀ ls st τ, kp_28_220 Q ls st τ → px_W C k 220 ls st τ := by
  intro ls st τ hz
  obtain ⟨ez, h0⟩ := hz
  obtain ⟨x0, l0, e0, h1⟩ := kN_sp h0
  obtain ⟨z1, l1, e1, h2⟩ := kZ_sp h1
  obtain ⟨x2, l2, e2, h3⟩ := kI_sp h2
  obtain ⟨ey, hy⟩ := kE_sp h3
  subst ez
  subst ey
  subst e2
  subst e1
  subst e0
  exact H x0 x2 τ hy z1
def kp_28_203 (Q : Nat → px_M → Prop) : px_P := fun ls st τ => st = [] ∧ kN ls (fun x0 ls => kZ ls (fun ls => kZ ls (fun ls => kE ls (Q x0 τ))))
theorem kq_28_203 {C : px_C} {k : Option px_V → px_M → Prop} {Q : Nat → px_M → Prop} (H : ∀ (x0 : Nat) (τ : px_M), Q x0 τ → ∀ (z1 : Option px_V) (z2 : Option px_V), px_W C k 203 [some (.inr (.inr (some x0))), z1, z2] [] τ) : ∀ ls st τ, kp_28_203 Q ls st τ → px_W C k 203 ls st τ := by
  intro ls st τ hz
  obtain ⟨ez, h0⟩ := hz
  obtain ⟨x0, l0, e0, h1⟩ := kN_sp h0
  obtain ⟨z1, l1, e1, h2⟩ := kZ_sp h1
  obtain ⟨z2, l2, e2, h3⟩ := kZ_sp h2
  obtain ⟨ey, hy⟩ := kE_sp h3
  subst ez
  subst ey
  subst e2
  subst e1
  subst e0
  exact H x0 τ hy z1 z2
def kp_28_176 (Q : Nat → px_M → Prop) : px_P := fun ls st τ => st = [] ∧ kN ls (fun x0 ls => kZ ls (fun ls => kZ ls (fun ls => kE ls (Q x0 τ))))
theorem kq_28_176 {C : px_C} {k : Option px_V → px_M → Prop} {Q : Nat → px_M → Prop} (H : ∀ (x0 : Nat) (τ : px_M), Q x0 τ → ∀ (z1 : Option px_V) (z2 : Option px_V), px_W C k 176 [some (.inr (.inr (some x0))), z1, z2] [] τ) : ∀ ls st τ, kp_28_176 Q ls st τ → px_W C k 176 ls st τ := by
  intro ls st τ hz
  obtain ⟨ez, h0⟩ := hz
  obtain ⟨x0, l0, e0, h1⟩ := kN_sp h0
  obtain ⟨z1, l1, e1, h2⟩ := kZ_sp h1
  obtain ⟨z2, l2, e2, h3⟩ := kZ_sp h2
  obtain ⟨ey, hy⟩ := kE_sp h3
  subst ez
  subst ey
  subst e2
  subst e1
  subst e0
  exact H x0 τ hy z1 z2
def kp_28_163 (Q : Nat → px_M → Prop) : px_P := fun ls st τ => st = [] ∧ kN ls (fun x0 ls => kZ ls (fun ls => kZ ls (fun ls => kE ls (Q x0 τ))))
theorem kq_28_163 {C : px_C} {k : Option px_V → px_M → Prop} {Q : Nat → px_M → Prop} (H : ∀ (x0 : Nat) (τ : px_M), Q x0 τ → ∀ (z1 : Option px_V) (z2 : Option px_V), px_W C k 163 [some (.inr (.inr (some x0))), z1, z2] [] τ) : ∀ ls st τ, kp_28_163 Q ls st τ → px_W C k 163 ls st τ := by
  intro ls st τ hz
  obtain ⟨ez, h0⟩ := hz
  obtain ⟨x0, l0, e0, h1⟩ := kN_sp h0
  obtain ⟨z1, l1, e1, h2⟩ := kZ_sp h1
  obtain ⟨z2, l2, e2, h3⟩ := kZ_sp h2
  obtain ⟨ey, hy⟩ := kE_sp h3
  subst ez
  subst ey
  subst e2
  subst e1
  subst e0
  exact H x0 τ hy z1 z2
def kp_28_149 (Q : Nat → px_M → Prop) : px_P := fun ls st τ => st = [] ∧ kN ls (fun x0 ls => kZ ls (fun ls => kZ ls (fun ls => kE ls (Q x0 τ))))
theorem kq_28_149 {C : px_C} {k : Option px_V → px_M → Prop} {Q : Nat → px_M → Prop} (H : ∀ (x0 : Nat) (τ : px_M), Q x0 τ → ∀ (z1 : Option px_V) (z2 : Option px_V), px_W C k 149 [some (.inr (.inr (some x0))), z1, z2] [] τ) : ∀ ls st τ, kp_28_149 Q ls st τ → px_W C k 149 ls st τ := by
  intro ls st τ hz
  obtain ⟨ez, h0⟩ := hz
  obtain ⟨x0, l0, e0, h1⟩ := kN_sp h0
  obtain ⟨z1, l1, e1, h2⟩ := kZ_sp h1
  obtain ⟨z2, l2, e2, h3⟩ := kZ_sp h2
  obtain ⟨ey, hy⟩ := kE_sp h3
  subst ez
  subst ey
  subst e2
  subst e1
  subst e0
  exact H x0 τ hy z1 z2
def kp_28_129 (Q : Nat → px_M → Prop) : px_P := fun ls st τ => st = [] ∧ kN ls (fun x0 ls => kZ ls (fun ls => kZ ls (fun ls => kE ls (Q x0 τ))))
theorem kq_28_129 {C : px_C} {k : Option px_V → px_M → Prop} {Q : Nat → px_M → Prop} (H : ∀ (x0 : Nat) (τ : px_M), Q x0 τ → ∀ (z1 : Option px_V) (z2 : Option px_V), px_W C k 129 [some (.inr (.inr (some x0))), z1, z2] [] τ) : ∀ ls st τ, kp_28_129 Q ls st τ → px_W C k 129 ls st τ := by
  intro ls st τ hz
  obtain ⟨ez, h0⟩ := hz
  obtain ⟨x0, l0, e0, h1⟩ := kN_sp h0
  obtain ⟨z1, l1, e1, h2⟩ := kZ_sp h1
  obtain ⟨z2, l2, e2, h3⟩ := kZ_sp h2
  obtain ⟨ey, hy⟩ := kE_sp h3
  subst ez
  subst ey
  subst e2
  subst e1
  subst e0
  exact H x0 τ hy z1 z2
def kp_28_122 (Q : Nat → px_M → Prop) : px_P := fun ls st τ => st = [] ∧ kN ls (fun x0 ls => kZ ls (fun ls => kZ ls (fun ls => kE ls (Q x0 τ))))
theorem kq_28_122 {C : px_C} {k : Option px_V → px_M → Prop} {Q : Nat → px_M → Prop} (H : ∀ (x0 : Nat) (τ : px_M), Q x0 τ → ∀ (z1 : Option px_V) (z2 : Option px_V), px_W C k 122 [some (.inr (.inr (some x0))), z1, z2] [] τ) : ∀ ls st τ, kp_28_122 Q ls st τ → px_W C k 122 ls st τ := by
  intro ls st τ hz
  obtain ⟨ez, h0⟩ := hz
  obtain ⟨x0, l0, e0, h1⟩ := kN_sp h0
  obtain ⟨z1, l1, e1, h2⟩ := kZ_sp h1
  obtain ⟨z2, l2, e2, h3⟩ := kZ_sp h2
  obtain ⟨ey, hy⟩ := kE_sp h3
  subst ez
  subst ey
  subst e2
  subst e1
  subst e0
  exact H x0 τ hy z1 z2
def kp_28_99 (Q : Nat → px_M → Prop) : px_P := fun ls st τ => st = [] ∧ kN ls (fun x0 ls => kZ ls (fun ls => kZ ls (fun ls => kE ls (Q x0 τ))))
theorem kq_28_99 {C : px_C} {k : Option px_V → px_M → Prop} {Q : Nat → px_M → Prop} (H : ∀ (x0 : Nat) (τ : px_M), Q x0 τ → ∀ (z1 : Option px_V) (z2 : Option px_V), px_W C k 99 [some (.inr (.inr (some x0))), z1, z2] [] τ) : ∀ ls st τ, kp_28_99 Q ls st τ → px_W C k 99 ls st τ := by
  intro ls st τ hz
  obtain ⟨ez, h0⟩ := hz
  obtain ⟨x0, l0, e0, h1⟩ := kN_sp h0
  obtain ⟨z1, l1, e1, h2⟩ := kZ_sp h1
  obtain ⟨z2, l2, e2, h3⟩ := kZ_sp h2
  obtain ⟨ey, hy⟩ := kE_sp h3
  subst ez
  subst ey
  subst e2
  subst e1
  subst e0
  exact H x0 τ hy z1 z2
def kp_28_92 (Q : Nat → px_M → Prop) : px_P := fun ls st τ => st = [] ∧ kN ls (fun x0 ls => kZ ls (fun ls => kZ ls (fun ls => kE ls (Q x0 τ))))
theorem kq_28_92 {C : px_C} {k : Option px_V → px_M → Prop} {Q : Nat → px_M → Prop} (H : ∀ (x0 : Nat) (τ : px_M), Q x0 τ → ∀ (z1 : Option px_V) (z2 : Option px_V), px_W C k 92 [some (.inr (.inr (some x0))), z1, z2] [] τ) : ∀ ls st τ, kp_28_92 Q ls st τ → px_W C k 92 ls st τ := by
  intro ls st τ hz
  obtain ⟨ez, h0⟩ := hz
  obtain ⟨x0, l0, e0, h1⟩ := kN_sp h0
  obtain ⟨z1, l1, e1, h2⟩ := kZ_sp h1
  obtain ⟨z2, l2, e2, h3⟩ := kZ_sp h2
  obtain ⟨ey, hy⟩ := kE_sp h3
  subst ez
  subst ey
  subst e2
  subst e1
  subst e0
  exact H x0 τ hy z1 z2
def kp_28_68 (Q : Nat → px_M → Prop) : px_P := fun ls st τ => st = [] ∧ kN ls (fun x0 ls => kZ ls (fun ls => kZ ls (fun ls => kE ls (Q x0 τ))))
theorem kq_28_68 {C : px_C} {k : Option px_V → px_M → Prop} {Q : Nat → px_M → Prop} (H : ∀ (x0 : Nat) (τ : px_M), Q x0 τ → ∀ (z1 : Option px_V) (z2 : Option px_V), px_W C k 68 [some (.inr (.inr (some x0))), z1, z2] [] τ) : ∀ ls st τ, kp_28_68 Q ls st τ → px_W C k 68 ls st τ := by
  intro ls st τ hz
  obtain ⟨ez, h0⟩ := hz
  obtain ⟨x0, l0, e0, h1⟩ := kN_sp h0
  obtain ⟨z1, l1, e1, h2⟩ := kZ_sp h1
  obtain ⟨z2, l2, e2, h3⟩ := kZ_sp h2
  obtain ⟨ey, hy⟩ := kE_sp h3
  subst ez
  subst ey
  subst e2
  subst e1
  subst e0
  exact H x0 τ hy z1 z2
def kp_28_44 (Q : Nat → Int32 → px_M → Prop) : px_P := fun ls st τ => st = [] ∧ kN ls (fun x0 ls => kZ ls (fun ls => kI ls (fun x2 ls => kE ls (Q x0 x2 τ))))
theorem kq_28_44 {C : px_C} {k : Option px_V → px_M → Prop} {Q : Nat → Int32 → px_M → Prop} (H : ∀ (x0 : Nat) (x2 : Int32) (τ : px_M), Q x0 x2 τ → ∀ (z1 : Option px_V), px_W C k 44 [some (.inr (.inr (some x0))), z1, some (.inl x2)] [] τ) : ∀ ls st τ, kp_28_44 Q ls st τ → px_W C k 44 ls st τ := by
  intro ls st τ hz
  obtain ⟨ez, h0⟩ := hz
  obtain ⟨x0, l0, e0, h1⟩ := kN_sp h0
  obtain ⟨z1, l1, e1, h2⟩ := kZ_sp h1
  obtain ⟨x2, l2, e2, h3⟩ := kI_sp h2
  obtain ⟨ey, hy⟩ := kE_sp h3
  subst ez
  subst ey
  subst e2
  subst e1
  subst e0
  exact H x0 x2 τ hy z1
def kp_28_22 (Q : Nat → Int32 → px_M → Prop) : px_P := fun ls st τ => st = [] ∧ kN ls (fun x0 ls => kI ls (fun x1 ls => kZ ls (fun ls => kE ls (Q x0 x1 τ))))
theorem kq_28_22 {C : px_C} {k : Option px_V → px_M → Prop} {Q : Nat → Int32 → px_M → Prop} (H : ∀ (x0 : Nat) (x1 : Int32) (τ : px_M), Q x0 x1 τ → ∀ (z2 : Option px_V), px_W C k 22 [some (.inr (.inr (some x0))), some (.inl x1), z2] [] τ) : ∀ ls st τ, kp_28_22 Q ls st τ → px_W C k 22 ls st τ := by
  intro ls st τ hz
  obtain ⟨ez, h0⟩ := hz
  obtain ⟨x0, l0, e0, h1⟩ := kN_sp h0
  obtain ⟨x1, l1, e1, h2⟩ := kI_sp h1
  obtain ⟨z2, l2, e2, h3⟩ := kZ_sp h2
  obtain ⟨ey, hy⟩ := kE_sp h3
  subst ez
  subst ey
  subst e2
  subst e1
  subst e0
  exact H x0 x1 τ hy z2
def kp_28_19 (Q : px_M → Prop) : px_P := fun ls st τ => st = [] ∧ kZ ls (fun ls => kZ ls (fun ls => kZ ls (fun ls => kE ls (Q τ))))
theorem kq_28_19 {C : px_C} {k : Option px_V → px_M → Prop} {Q : px_M → Prop} (H : ∀ (τ : px_M), Q τ → ∀ (z0 : Option px_V) (z1 : Option px_V) (z2 : Option px_V), px_W C k 19 [z0, z1, z2] [] τ) : ∀ ls st τ, kp_28_19 Q ls st τ → px_W C k 19 ls st τ := by
  intro ls st τ hz
  obtain ⟨ez, h0⟩ := hz
  obtain ⟨z0, l0, e0, h1⟩ := kZ_sp h0
  obtain ⟨z1, l1, e1, h2⟩ := kZ_sp h1
  obtain ⟨z2, l2, e2, h3⟩ := kZ_sp h2
  obtain ⟨ey, hy⟩ := kE_sp h3
  subst ez
  subst ey
  subst e2
  subst e1
  subst e0
  exact H τ hy z0 z1 z2
set_option maxHeartbeats 4000000 in
set_option maxRecDepth 100000 in
theorem rl_28_220 {C : px_C} (hn : px_nd (px_tb C)) {h : Nat} (hh : 131 ≤ h) (hC : px_ok C pn_i28 h) {k : Option px_V → px_M → Prop} {x0 : Nat} : ∀ s : Int32 × px_M, oW (f_28_220 (px_tb C) x0 s.1 s.2) (fun q => k (some (.inl q.1)) q.2) → (fun s : Int32 × px_M => ∀ (z1 : Option px_V), px_W C k 220 [some (.inr (.inr (some x0))), z1, some (.inl s.1)] [] s.2) s := by
  intro s h0
  refine lpO_sound (P := (fun s : Int32 × px_M => ∀ (z1 : Option px_V), px_W C k 220 [some (.inr (.inr (some x0))), z1, some (.inl s.1)] [] s.2)) (fun s hs => ?_) h0
  obtain ⟨x2, σ⟩ := s
  intro z1
  refine px_runH (h - 1) ck_28 [] [(220, kp_28_220 (fun y0 y2 τ => y0 = x0 ∧ (fun s : Int32 × px_M => ∀ (z1 : Option px_V), px_W C k 220 [some (.inr (.inr (some x0))), z1, some (.inl s.1)] [] s.2) (y2, τ)))] 80 3 (some .int) rfl rfl hC px_nosp (by omega) (px_cut1 (kq_28_220 (fun y0 y2 τ hq => by obtain ⟨rfl, hq⟩ := hq; exact hq)) px_nocut) (fun G Jf hG hJf => ?_)
  replace hs : oW (F_28_220 (px_tb C) x0 x2 σ) _ := hs
  unfold F_28_220 at hs
  by_cases hc0 : (nI 1072) ≤ x2
  · replace hs := oW_t hs hc0
    obtain ⟨hc1, hs⟩ := oW_gx hs
    obtain ⟨n1, hc2, hs⟩ := oW_bx hs
    obtain ⟨t2, l3, hc3, hs⟩ := oW_ax hs
    obtain ⟨hc4, hs⟩ := oW_gx hs
    obtain ⟨hc5, hs⟩ := oW_gx hs
    simp only [↓hG, ↓hJf, ↓px_vc, ↓px_ex, ↓px_jp, ↓px_gi, ↓px_gl, ↓px_gr, ↓px_s1, ↓px_s2, ↓px_nl, ↓px_i1, ↓px_l1, ↓r1_s, ↓px_q1, ↓px_i2, ↓px_l2, ↓px_il, ↓px_d0, ↓px_d1, ↓px_d2, ↓px_pop, ↓px_sp, ↓px_rd, ↓px_rf, ↓pn_xf, ↓px_pt, ↓px_sw, ↓pn_SW, ↓px_ma, ↓reduceIte, Nat.reduceEqDiff, Nat.reduceAdd, Nat.reduceSub, ↓Option.toList_some, ↓Option.toList_none, ↓List.cons_append, ↓List.nil_append, ↓kI_s, ↓kJ_s, ↓kN_s, ↓kO_s, ↓kZ_s, ↓kE_s, ↓an_rfl, ↓bt1 n00, ↓bt2 n00, ↓bf1 n10, ↓bf2 n10, ↓an_sz0, ↓an_sz1, ↓an_sz2, ↓an_sz3, ↓an_sz4, ↓an_ri, ↓an_rb0, ↓an_rb1, ↓an_b0, ↓an_b1, true_and, ↓ai_0s, ↓al_0s, ↓av_0s, ↓aq_0s, ↓ai_1s, ↓al_1s, ↓av_1s, ↓aq_1s, ↓ai_2s, ↓al_2s, ↓av_2s, ↓aq_2s, ↓ai_3s, ↓al_3s, ↓av_3s, ↓aq_3s, ↓ai_4s, ↓al_4s, ↓av_4s, ↓aq_4s, ↓ai_5s, ↓al_5s, ↓av_5s, ↓aq_5s, ↓ai_6s, ↓al_6s, ↓av_6s, ↓aq_6s, ↓ai_7s, ↓al_7s, ↓av_7s, ↓aq_7s, ↓an_l3, ↓bk_28, ↓kp_28_220, ↓bt1 hc0, ↓bt2 hc0, ↓an_t hc1, ↓an_rv hc1, ↓r1_e hc2, ↓av_0e hc2, ↓av_1e hc2, ↓av_2e hc2, ↓av_3e hc2, ↓ar_e hc3, ↓an_t hc4, ↓an_t hc5]
    rw [oW_some] at hs
    exact hs
  · replace hs := oW_f hs hc0
    obtain ⟨hc1, hs⟩ := oW_gx hs
    obtain ⟨n4, hc2, hs⟩ := oW_bx hs
    obtain ⟨t5, l6, hc3, hs⟩ := oW_ax hs
    obtain ⟨hc4, hs⟩ := oW_gx hs
    obtain ⟨hc5, hs⟩ := oW_gx hs
    obtain ⟨n7, hc6, hs⟩ := oW_bx hs
    obtain ⟨t8, l9, hc7, hs⟩ := oW_ax hs
    obtain ⟨hc8, hs⟩ := oW_gx hs
    obtain ⟨hc9, hs⟩ := oW_gx hs
    simp only [↓hG, ↓hJf, ↓px_vc, ↓px_ex, ↓px_jp, ↓px_gi, ↓px_gl, ↓px_gr, ↓px_s1, ↓px_s2, ↓px_nl, ↓px_i1, ↓px_l1, ↓r1_s, ↓px_q1, ↓px_i2, ↓px_l2, ↓px_il, ↓px_d0, ↓px_d1, ↓px_d2, ↓px_pop, ↓px_sp, ↓px_rd, ↓px_rf, ↓pn_xf, ↓px_pt, ↓px_sw, ↓pn_SW, ↓px_ma, ↓reduceIte, Nat.reduceEqDiff, Nat.reduceAdd, Nat.reduceSub, ↓Option.toList_some, ↓Option.toList_none, ↓List.cons_append, ↓List.nil_append, ↓kI_s, ↓kJ_s, ↓kN_s, ↓kO_s, ↓kZ_s, ↓kE_s, ↓an_rfl, ↓bt1 n00, ↓bt2 n00, ↓bf1 n10, ↓bf2 n10, ↓an_sz0, ↓an_sz1, ↓an_sz2, ↓an_sz3, ↓an_sz4, ↓an_ri, ↓an_rb0, ↓an_rb1, ↓an_b0, ↓an_b1, true_and, ↓ai_0s, ↓al_0s, ↓av_0s, ↓aq_0s, ↓ai_1s, ↓al_1s, ↓av_1s, ↓aq_1s, ↓ai_2s, ↓al_2s, ↓av_2s, ↓aq_2s, ↓ai_3s, ↓al_3s, ↓av_3s, ↓aq_3s, ↓ai_4s, ↓al_4s, ↓av_4s, ↓aq_4s, ↓ai_5s, ↓al_5s, ↓av_5s, ↓aq_5s, ↓ai_6s, ↓al_6s, ↓av_6s, ↓aq_6s, ↓ai_7s, ↓al_7s, ↓av_7s, ↓aq_7s, ↓an_l3, ↓bk_28, ↓kp_28_220, ↓bf1 hc0, ↓bf2 hc0, ↓an_t hc1, ↓an_rv hc1, ↓r1_e hc2, ↓av_0e hc2, ↓av_1e hc2, ↓av_2e hc2, ↓av_3e hc2, ↓ar_e hc3, ↓an_t hc4, ↓an_t hc5, ↓r1_e hc6, ↓av_0e hc6, ↓av_1e hc6, ↓av_2e hc6, ↓av_3e hc6, ↓ar_e hc7, ↓an_t hc8, ↓an_t hc9]
    rw [oW_some] at hs
    exact hs
set_option maxHeartbeats 4000000 in
set_option maxRecDepth 100000 in
theorem rl_28_203 {C : px_C} (hn : px_nd (px_tb C)) {h : Nat} (hh : 131 ≤ h) (hC : px_ok C pn_i28 h) {k : Option px_V → px_M → Prop} {x0 : Nat} {σ : px_M} (hs : oW (f_28_203 (px_tb C) σ x0) (fun q => k (some (.inl q.1)) q.2)) : ∀ (z1 : Option px_V) (z2 : Option px_V), px_W C k 203 [some (.inr (.inr (some x0))), z1, z2] [] σ := by
  intro z1 z2
  refine px_runH (h - 1) ck_28 [] [(220, kp_28_220 (fun y0 y2 τ => oW (f_28_220 (px_tb C) y0 y2 τ) (fun q => k (some (.inl q.1)) q.2)))] 80 3 (some .int) rfl rfl hC px_nosp (by omega) (px_cut1 (kq_28_220 (fun y0 y2 τ hq => by exact rl_28_220 hn (by omega) hC (y2, τ) hq)) px_nocut) (fun G Jf hG hJf => ?_)
  unfold f_28_203 at hs
  obtain ⟨hc0, hs⟩ := oW_gx hs
  by_cases hc1 : ((σ).1 x0 11) = nI 0
  · replace hs := oW_t hs hc1
    simp only [↓hG, ↓hJf, ↓px_vc, ↓px_ex, ↓px_jp, ↓px_gi, ↓px_gl, ↓px_gr, ↓px_s1, ↓px_s2, ↓px_nl, ↓px_i1, ↓px_l1, ↓r1_s, ↓px_q1, ↓px_i2, ↓px_l2, ↓px_il, ↓px_d0, ↓px_d1, ↓px_d2, ↓px_pop, ↓px_sp, ↓px_rd, ↓px_rf, ↓pn_xf, ↓px_pt, ↓px_sw, ↓pn_SW, ↓px_ma, ↓reduceIte, Nat.reduceEqDiff, Nat.reduceAdd, Nat.reduceSub, ↓Option.toList_some, ↓Option.toList_none, ↓List.cons_append, ↓List.nil_append, ↓kI_s, ↓kJ_s, ↓kN_s, ↓kO_s, ↓kZ_s, ↓kE_s, ↓an_rfl, ↓bt1 n00, ↓bt2 n00, ↓bf1 n10, ↓bf2 n10, ↓an_sz0, ↓an_sz1, ↓an_sz2, ↓an_sz3, ↓an_sz4, ↓an_ri, ↓an_rb0, ↓an_rb1, ↓an_b0, ↓an_b1, true_and, ↓ai_0s, ↓al_0s, ↓av_0s, ↓aq_0s, ↓ai_1s, ↓al_1s, ↓av_1s, ↓aq_1s, ↓ai_2s, ↓al_2s, ↓av_2s, ↓aq_2s, ↓ai_3s, ↓al_3s, ↓av_3s, ↓aq_3s, ↓ai_4s, ↓al_4s, ↓av_4s, ↓aq_4s, ↓ai_5s, ↓al_5s, ↓av_5s, ↓aq_5s, ↓ai_6s, ↓al_6s, ↓av_6s, ↓aq_6s, ↓ai_7s, ↓al_7s, ↓av_7s, ↓aq_7s, ↓an_l3, ↓bk_28, ↓kp_28_220, ↓an_t hc0, ↓an_rv hc0, ↓bt1 hc1, ↓bt2 hc1]
    exact hs
  · replace hs := oW_f hs hc1
    simp only [↓hG, ↓hJf, ↓px_vc, ↓px_ex, ↓px_jp, ↓px_gi, ↓px_gl, ↓px_gr, ↓px_s1, ↓px_s2, ↓px_nl, ↓px_i1, ↓px_l1, ↓r1_s, ↓px_q1, ↓px_i2, ↓px_l2, ↓px_il, ↓px_d0, ↓px_d1, ↓px_d2, ↓px_pop, ↓px_sp, ↓px_rd, ↓px_rf, ↓pn_xf, ↓px_pt, ↓px_sw, ↓pn_SW, ↓px_ma, ↓reduceIte, Nat.reduceEqDiff, Nat.reduceAdd, Nat.reduceSub, ↓Option.toList_some, ↓Option.toList_none, ↓List.cons_append, ↓List.nil_append, ↓kI_s, ↓kJ_s, ↓kN_s, ↓kO_s, ↓kZ_s, ↓kE_s, ↓an_rfl, ↓bt1 n00, ↓bt2 n00, ↓bf1 n10, ↓bf2 n10, ↓an_sz0, ↓an_sz1, ↓an_sz2, ↓an_sz3, ↓an_sz4, ↓an_ri, ↓an_rb0, ↓an_rb1, ↓an_b0, ↓an_b1, true_and, ↓ai_0s, ↓al_0s, ↓av_0s, ↓aq_0s, ↓ai_1s, ↓al_1s, ↓av_1s, ↓aq_1s, ↓ai_2s, ↓al_2s, ↓av_2s, ↓aq_2s, ↓ai_3s, ↓al_3s, ↓av_3s, ↓aq_3s, ↓ai_4s, ↓al_4s, ↓av_4s, ↓aq_4s, ↓ai_5s, ↓al_5s, ↓av_5s, ↓aq_5s, ↓ai_6s, ↓al_6s, ↓av_6s, ↓aq_6s, ↓ai_7s, ↓al_7s, ↓av_7s, ↓aq_7s, ↓an_l3, ↓bk_28, ↓kp_28_220, ↓an_t hc0, ↓an_rv hc0, ↓bf1 hc1, ↓bf2 hc1]
    rw [oW_some] at hs
    exact hs
set_option maxHeartbeats 4000000 in
set_option maxRecDepth 100000 in
theorem rl_28_176 {C : px_C} (hn : px_nd (px_tb C)) {h : Nat} (hh : 131 ≤ h) (hC : px_ok C pn_i28 h) {k : Option px_V → px_M → Prop} {x0 : Nat} {σ : px_M} (hs : oW (f_28_176 (px_tb C) σ x0) (fun q => k (some (.inl q.1)) q.2)) : ∀ (z1 : Option px_V) (z2 : Option px_V), px_W C k 176 [some (.inr (.inr (some x0))), z1, z2] [] σ := by
  intro z1 z2
  refine px_runH (h - 1) ck_28 [] [(203, kp_28_203 (fun y0 τ => oW (f_28_203 (px_tb C) τ y0) (fun q => k (some (.inl q.1)) q.2)))] 80 3 (some .int) rfl rfl hC px_nosp (by omega) (px_cut1 (kq_28_203 (fun y0 τ hq => by exact rl_28_203 hn (by omega) hC  hq)) px_nocut) (fun G Jf hG hJf => ?_)
  unfold f_28_176 at hs
  obtain ⟨hc0, hs⟩ := oW_gx hs
  by_cases hc1 : (((px_wi σ x0 13 ((σ).1 x0 11))).1 x0 11) = nI 0
  · replace hs := bW_t hs hc1
    simp only [↓hG, ↓hJf, ↓px_vc, ↓px_ex, ↓px_jp, ↓px_gi, ↓px_gl, ↓px_gr, ↓px_s1, ↓px_s2, ↓px_nl, ↓px_i1, ↓px_l1, ↓r1_s, ↓px_q1, ↓px_i2, ↓px_l2, ↓px_il, ↓px_d0, ↓px_d1, ↓px_d2, ↓px_pop, ↓px_sp, ↓px_rd, ↓px_rf, ↓pn_xf, ↓px_pt, ↓px_sw, ↓pn_SW, ↓px_ma, ↓reduceIte, Nat.reduceEqDiff, Nat.reduceAdd, Nat.reduceSub, ↓Option.toList_some, ↓Option.toList_none, ↓List.cons_append, ↓List.nil_append, ↓kI_s, ↓kJ_s, ↓kN_s, ↓kO_s, ↓kZ_s, ↓kE_s, ↓an_rfl, ↓bt1 n00, ↓bt2 n00, ↓bf1 n10, ↓bf2 n10, ↓an_sz0, ↓an_sz1, ↓an_sz2, ↓an_sz3, ↓an_sz4, ↓an_ri, ↓an_rb0, ↓an_rb1, ↓an_b0, ↓an_b1, true_and, ↓ai_0s, ↓al_0s, ↓av_0s, ↓aq_0s, ↓ai_1s, ↓al_1s, ↓av_1s, ↓aq_1s, ↓ai_2s, ↓al_2s, ↓av_2s, ↓aq_2s, ↓ai_3s, ↓al_3s, ↓av_3s, ↓aq_3s, ↓ai_4s, ↓al_4s, ↓av_4s, ↓aq_4s, ↓ai_5s, ↓al_5s, ↓av_5s, ↓aq_5s, ↓ai_6s, ↓al_6s, ↓av_6s, ↓aq_6s, ↓ai_7s, ↓al_7s, ↓av_7s, ↓aq_7s, ↓an_l3, ↓bk_28, ↓kp_28_203, ↓an_t hc0, ↓an_rv hc0, ↓bt1 hc1, ↓bt2 hc1]
    exact hs
  · replace hs := bW_f hs hc1
    simp only [↓hG, ↓hJf, ↓px_vc, ↓px_ex, ↓px_jp, ↓px_gi, ↓px_gl, ↓px_gr, ↓px_s1, ↓px_s2, ↓px_nl, ↓px_i1, ↓px_l1, ↓r1_s, ↓px_q1, ↓px_i2, ↓px_l2, ↓px_il, ↓px_d0, ↓px_d1, ↓px_d2, ↓px_pop, ↓px_sp, ↓px_rd, ↓px_rf, ↓pn_xf, ↓px_pt, ↓px_sw, ↓pn_SW, ↓px_ma, ↓reduceIte, Nat.reduceEqDiff, Nat.reduceAdd, Nat.reduceSub, ↓Option.toList_some, ↓Option.toList_none, ↓List.cons_append, ↓List.nil_append, ↓kI_s, ↓kJ_s, ↓kN_s, ↓kO_s, ↓kZ_s, ↓kE_s, ↓an_rfl, ↓bt1 n00, ↓bt2 n00, ↓bf1 n10, ↓bf2 n10, ↓an_sz0, ↓an_sz1, ↓an_sz2, ↓an_sz3, ↓an_sz4, ↓an_ri, ↓an_rb0, ↓an_rb1, ↓an_b0, ↓an_b1, true_and, ↓ai_0s, ↓al_0s, ↓av_0s, ↓aq_0s, ↓ai_1s, ↓al_1s, ↓av_1s, ↓aq_1s, ↓ai_2s, ↓al_2s, ↓av_2s, ↓aq_2s, ↓ai_3s, ↓al_3s, ↓av_3s, ↓aq_3s, ↓ai_4s, ↓al_4s, ↓av_4s, ↓aq_4s, ↓ai_5s, ↓al_5s, ↓av_5s, ↓aq_5s, ↓ai_6s, ↓al_6s, ↓av_6s, ↓aq_6s, ↓ai_7s, ↓al_7s, ↓av_7s, ↓aq_7s, ↓an_l3, ↓bk_28, ↓kp_28_203, ↓an_t hc0, ↓an_rv hc0, ↓bf1 hc1, ↓bf2 hc1]
    exact hs
set_option maxHeartbeats 4000000 in
set_option maxRecDepth 100000 in
theorem rl_28_163 {C : px_C} (hn : px_nd (px_tb C)) {h : Nat} (hh : 131 ≤ h) (hC : px_ok C pn_i28 h) {k : Option px_V → px_M → Prop} {x0 : Nat} {σ : px_M} (hs : oW (f_28_163 (px_tb C) σ x0) (Sum.elim (fun s : px_M => ∀ (z1 : Option px_V) (z2 : Option px_V), px_W C k 68 [some (.inr (.inr (some x0))), z1, z2] [] s) (fun q => k (some (.inl q.1)) q.2))) : ∀ (z1 : Option px_V) (z2 : Option px_V), px_W C k 163 [some (.inr (.inr (some x0))), z1, z2] [] σ := by
  intro z1 z2
  refine px_runH (h - 1) ck_28 [] [(68, kp_28_68 (fun y0 τ => y0 = x0 ∧ (fun s : px_M => ∀ (z1 : Option px_V) (z2 : Option px_V), px_W C k 68 [some (.inr (.inr (some x0))), z1, z2] [] s) τ))] 80 3 (some .int) rfl rfl hC px_nosp (by omega) (px_cut1 (kq_28_68 (fun y0 τ hq => by obtain ⟨rfl, hq⟩ := hq; exact hq)) px_nocut) (fun G Jf hG hJf => ?_)
  unfold f_28_163 at hs
  obtain ⟨hc0, hs⟩ := oW_gx hs
  obtain ⟨n1, hc1, hs⟩ := oW_bx hs
  obtain ⟨t2, l3, hc2, hs⟩ := oW_ax hs
  obtain ⟨hc3, hs⟩ := oW_gx hs
  obtain ⟨hc4, hs⟩ := oW_gx hs
  obtain ⟨hc5, hs⟩ := oW_gx hs
  simp only [↓hG, ↓hJf, ↓px_vc, ↓px_ex, ↓px_jp, ↓px_gi, ↓px_gl, ↓px_gr, ↓px_s1, ↓px_s2, ↓px_nl, ↓px_i1, ↓px_l1, ↓r1_s, ↓px_q1, ↓px_i2, ↓px_l2, ↓px_il, ↓px_d0, ↓px_d1, ↓px_d2, ↓px_pop, ↓px_sp, ↓px_rd, ↓px_rf, ↓pn_xf, ↓px_pt, ↓px_sw, ↓pn_SW, ↓px_ma, ↓reduceIte, Nat.reduceEqDiff, Nat.reduceAdd, Nat.reduceSub, ↓Option.toList_some, ↓Option.toList_none, ↓List.cons_append, ↓List.nil_append, ↓kI_s, ↓kJ_s, ↓kN_s, ↓kO_s, ↓kZ_s, ↓kE_s, ↓an_rfl, ↓bt1 n00, ↓bt2 n00, ↓bf1 n10, ↓bf2 n10, ↓an_sz0, ↓an_sz1, ↓an_sz2, ↓an_sz3, ↓an_sz4, ↓an_ri, ↓an_rb0, ↓an_rb1, ↓an_b0, ↓an_b1, true_and, ↓ai_0s, ↓al_0s, ↓av_0s, ↓aq_0s, ↓ai_1s, ↓al_1s, ↓av_1s, ↓aq_1s, ↓ai_2s, ↓al_2s, ↓av_2s, ↓aq_2s, ↓ai_3s, ↓al_3s, ↓av_3s, ↓aq_3s, ↓ai_4s, ↓al_4s, ↓av_4s, ↓aq_4s, ↓ai_5s, ↓al_5s, ↓av_5s, ↓aq_5s, ↓ai_6s, ↓al_6s, ↓av_6s, ↓aq_6s, ↓ai_7s, ↓al_7s, ↓av_7s, ↓aq_7s, ↓an_l3, ↓bk_28, ↓kp_28_68, ↓an_t hc0, ↓an_rv hc0, ↓r1_e hc1, ↓av_0e hc1, ↓av_1e hc1, ↓av_2e hc1, ↓av_3e hc1, ↓ar_e hc2, ↓an_t hc3, ↓an_t hc4, ↓an_t hc5]
  rw [oW_some] at hs
  exact hs
set_option maxHeartbeats 4000000 in
set_option maxRecDepth 100000 in
theorem rl_28_149 {C : px_C} (hn : px_nd (px_tb C)) {h : Nat} (hh : 131 ≤ h) (hC : px_ok C pn_i28 h) {k : Option px_V → px_M → Prop} {x0 : Nat} {σ : px_M} (hs : oW (f_28_149 (px_tb C) σ x0) (Sum.elim (fun s : px_M => ∀ (z1 : Option px_V) (z2 : Option px_V), px_W C k 68 [some (.inr (.inr (some x0))), z1, z2] [] s) (fun q => k (some (.inl q.1)) q.2))) : ∀ (z1 : Option px_V) (z2 : Option px_V), px_W C k 149 [some (.inr (.inr (some x0))), z1, z2] [] σ := by
  intro z1 z2
  refine px_runH (h - 1) ck_28 [(10, Sg_10 (f_10 (px_tb C))), (12, Sg_12 (f_12 (px_tb C)))] [(163, kp_28_163 (fun y0 τ => y0 = x0 ∧ oW (f_28_163 (px_tb C) τ y0) (Sum.elim (fun s : px_M => ∀ (z1 : Option px_V) (z2 : Option px_V), px_W C k 68 [some (.inr (.inr (some x0))), z1, z2] [] s) (fun q => k (some (.inl q.1)) q.2))))] 80 3 (some .int) rfl rfl hC (px_sp1 (mf_10 hn (by omega)) (px_sp1 (mf_12 hn (by omega)) px_nosp)) (by omega) (px_cut1 (kq_28_163 (fun y0 τ hq => by obtain ⟨rfl, hq⟩ := hq; exact rl_28_163 hn (by omega) hC  hq)) px_nocut) (fun G Jf hG hJf => ?_)
  unfold f_28_149 at hs
  obtain ⟨hc0, hs⟩ := oW_gx hs
  obtain ⟨q1, hc1, hs⟩ := oW_bx hs
  by_cases hc2 : q1.1 = nI 0
  · replace hs := bW_t hs hc2
    obtain ⟨q2, hc3, hs⟩ := oW_bx hs
    simp only [↓hG, ↓hJf, ↓px_vc, ↓px_ex, ↓px_jp, ↓px_gi, ↓px_gl, ↓px_gr, ↓px_s1, ↓px_s2, ↓px_nl, ↓px_i1, ↓px_l1, ↓r1_s, ↓px_q1, ↓px_i2, ↓px_l2, ↓px_il, ↓px_d0, ↓px_d1, ↓px_d2, ↓px_pop, ↓px_sp, ↓px_rd, ↓px_rf, ↓pn_xf, ↓px_pt, ↓px_sw, ↓pn_SW, ↓px_ma, ↓reduceIte, Nat.reduceEqDiff, Nat.reduceAdd, Nat.reduceSub, ↓Option.toList_some, ↓Option.toList_none, ↓List.cons_append, ↓List.nil_append, ↓kI_s, ↓kJ_s, ↓kN_s, ↓kO_s, ↓kZ_s, ↓kE_s, ↓an_rfl, ↓bt1 n00, ↓bt2 n00, ↓bf1 n10, ↓bf2 n10, ↓an_sz0, ↓an_sz1, ↓an_sz2, ↓an_sz3, ↓an_sz4, ↓an_ri, ↓an_rb0, ↓an_rb1, ↓an_b0, ↓an_b1, true_and, ↓ai_0s, ↓al_0s, ↓av_0s, ↓aq_0s, ↓ai_1s, ↓al_1s, ↓av_1s, ↓aq_1s, ↓ai_2s, ↓al_2s, ↓av_2s, ↓aq_2s, ↓ai_3s, ↓al_3s, ↓av_3s, ↓aq_3s, ↓ai_4s, ↓al_4s, ↓av_4s, ↓aq_4s, ↓ai_5s, ↓al_5s, ↓av_5s, ↓aq_5s, ↓ai_6s, ↓al_6s, ↓av_6s, ↓aq_6s, ↓ai_7s, ↓al_7s, ↓av_7s, ↓aq_7s, ↓an_l3, ↓bk_28, ↓Sg_10, ↓Sg_12, ↓kp_28_163, ↓an_t hc0, ↓an_rv hc0, ↓oW_e hc1, ↓bt1 hc2, ↓bt2 hc2, ↓oW_e hc3]
    exact hs
  · replace hs := bW_f hs hc2
    simp only [↓hG, ↓hJf, ↓px_vc, ↓px_ex, ↓px_jp, ↓px_gi, ↓px_gl, ↓px_gr, ↓px_s1, ↓px_s2, ↓px_nl, ↓px_i1, ↓px_l1, ↓r1_s, ↓px_q1, ↓px_i2, ↓px_l2, ↓px_il, ↓px_d0, ↓px_d1, ↓px_d2, ↓px_pop, ↓px_sp, ↓px_rd, ↓px_rf, ↓pn_xf, ↓px_pt, ↓px_sw, ↓pn_SW, ↓px_ma, ↓reduceIte, Nat.reduceEqDiff, Nat.reduceAdd, Nat.reduceSub, ↓Option.toList_some, ↓Option.toList_none, ↓List.cons_append, ↓List.nil_append, ↓kI_s, ↓kJ_s, ↓kN_s, ↓kO_s, ↓kZ_s, ↓kE_s, ↓an_rfl, ↓bt1 n00, ↓bt2 n00, ↓bf1 n10, ↓bf2 n10, ↓an_sz0, ↓an_sz1, ↓an_sz2, ↓an_sz3, ↓an_sz4, ↓an_ri, ↓an_rb0, ↓an_rb1, ↓an_b0, ↓an_b1, true_and, ↓ai_0s, ↓al_0s, ↓av_0s, ↓aq_0s, ↓ai_1s, ↓al_1s, ↓av_1s, ↓aq_1s, ↓ai_2s, ↓al_2s, ↓av_2s, ↓aq_2s, ↓ai_3s, ↓al_3s, ↓av_3s, ↓aq_3s, ↓ai_4s, ↓al_4s, ↓av_4s, ↓aq_4s, ↓ai_5s, ↓al_5s, ↓av_5s, ↓aq_5s, ↓ai_6s, ↓al_6s, ↓av_6s, ↓aq_6s, ↓ai_7s, ↓al_7s, ↓av_7s, ↓aq_7s, ↓an_l3, ↓bk_28, ↓Sg_10, ↓Sg_12, ↓kp_28_163, ↓an_t hc0, ↓an_rv hc0, ↓oW_e hc1, ↓bf1 hc2, ↓bf2 hc2]
    exact hs
set_option maxHeartbeats 4000000 in
set_option maxRecDepth 100000 in
theorem rl_28_129 {C : px_C} (hn : px_nd (px_tb C)) {h : Nat} (hh : 131 ≤ h) (hC : px_ok C pn_i28 h) {k : Option px_V → px_M → Prop} {x0 : Nat} {σ : px_M} (hs : oW (f_28_129 (px_tb C) σ x0) (Sum.elim (fun s : px_M => ∀ (z1 : Option px_V) (z2 : Option px_V), px_W C k 68 [some (.inr (.inr (some x0))), z1, z2] [] s) (fun q => k (some (.inl q.1)) q.2))) : ∀ (z1 : Option px_V) (z2 : Option px_V), px_W C k 129 [some (.inr (.inr (some x0))), z1, z2] [] σ := by
  intro z1 z2
  refine px_runH (h - 1) ck_28 [(10, Sg_10 (f_10 (px_tb C))), (11, Sg_11 (f_11 (px_tb C))), (27, Sg_27 (f_27 (px_tb C)))] [(149, kp_28_149 (fun y0 τ => y0 = x0 ∧ oW (f_28_149 (px_tb C) τ y0) (Sum.elim (fun s : px_M => ∀ (z1 : Option px_V) (z2 : Option px_V), px_W C k 68 [some (.inr (.inr (some x0))), z1, z2] [] s) (fun q => k (some (.inl q.1)) q.2))))] 80 3 (some .int) rfl rfl hC (px_sp1 (mf_10 hn (by omega)) (px_sp1 (mf_11 hn (by omega)) (px_sp1 (mf_27 hn (by omega)) px_nosp))) (by omega) (px_cut1 (kq_28_149 (fun y0 τ hq => by obtain ⟨rfl, hq⟩ := hq; exact rl_28_149 hn (by omega) hC  hq)) px_nocut) (fun G Jf hG hJf => ?_)
  unfold f_28_129 at hs
  obtain ⟨hc0, hs⟩ := oW_gx hs
  obtain ⟨r1, hc1, hs⟩ := oW_bx hs
  by_cases hc2 : r1 = nI 0
  · replace hs := oW_t hs hc2
    obtain ⟨q2, hc3, hs⟩ := oW_bx hs
    simp only [↓hG, ↓hJf, ↓px_vc, ↓px_ex, ↓px_jp, ↓px_gi, ↓px_gl, ↓px_gr, ↓px_s1, ↓px_s2, ↓px_nl, ↓px_i1, ↓px_l1, ↓r1_s, ↓px_q1, ↓px_i2, ↓px_l2, ↓px_il, ↓px_d0, ↓px_d1, ↓px_d2, ↓px_pop, ↓px_sp, ↓px_rd, ↓px_rf, ↓pn_xf, ↓px_pt, ↓px_sw, ↓pn_SW, ↓px_ma, ↓reduceIte, Nat.reduceEqDiff, Nat.reduceAdd, Nat.reduceSub, ↓Option.toList_some, ↓Option.toList_none, ↓List.cons_append, ↓List.nil_append, ↓kI_s, ↓kJ_s, ↓kN_s, ↓kO_s, ↓kZ_s, ↓kE_s, ↓an_rfl, ↓bt1 n00, ↓bt2 n00, ↓bf1 n10, ↓bf2 n10, ↓an_sz0, ↓an_sz1, ↓an_sz2, ↓an_sz3, ↓an_sz4, ↓an_ri, ↓an_rb0, ↓an_rb1, ↓an_b0, ↓an_b1, true_and, ↓ai_0s, ↓al_0s, ↓av_0s, ↓aq_0s, ↓ai_1s, ↓al_1s, ↓av_1s, ↓aq_1s, ↓ai_2s, ↓al_2s, ↓av_2s, ↓aq_2s, ↓ai_3s, ↓al_3s, ↓av_3s, ↓aq_3s, ↓ai_4s, ↓al_4s, ↓av_4s, ↓aq_4s, ↓ai_5s, ↓al_5s, ↓av_5s, ↓aq_5s, ↓ai_6s, ↓al_6s, ↓av_6s, ↓aq_6s, ↓ai_7s, ↓al_7s, ↓av_7s, ↓aq_7s, ↓an_l3, ↓bk_28, ↓Sg_10, ↓Sg_11, ↓Sg_27, ↓kp_28_149, ↓an_t hc0, ↓an_rv hc0, ↓oW_e hc1, ↓bt1 hc2, ↓bt2 hc2, ↓oW_e hc3]
    exact hs
  · replace hs := oW_f hs hc2
    obtain ⟨q3, hc3, hs⟩ := oW_bx hs
    simp only [↓hG, ↓hJf, ↓px_vc, ↓px_ex, ↓px_jp, ↓px_gi, ↓px_gl, ↓px_gr, ↓px_s1, ↓px_s2, ↓px_nl, ↓px_i1, ↓px_l1, ↓r1_s, ↓px_q1, ↓px_i2, ↓px_l2, ↓px_il, ↓px_d0, ↓px_d1, ↓px_d2, ↓px_pop, ↓px_sp, ↓px_rd, ↓px_rf, ↓pn_xf, ↓px_pt, ↓px_sw, ↓pn_SW, ↓px_ma, ↓reduceIte, Nat.reduceEqDiff, Nat.reduceAdd, Nat.reduceSub, ↓Option.toList_some, ↓Option.toList_none, ↓List.cons_append, ↓List.nil_append, ↓kI_s, ↓kJ_s, ↓kN_s, ↓kO_s, ↓kZ_s, ↓kE_s, ↓an_rfl, ↓bt1 n00, ↓bt2 n00, ↓bf1 n10, ↓bf2 n10, ↓an_sz0, ↓an_sz1, ↓an_sz2, ↓an_sz3, ↓an_sz4, ↓an_ri, ↓an_rb0, ↓an_rb1, ↓an_b0, ↓an_b1, true_and, ↓ai_0s, ↓al_0s, ↓av_0s, ↓aq_0s, ↓ai_1s, ↓al_1s, ↓av_1s, ↓aq_1s, ↓ai_2s, ↓al_2s, ↓av_2s, ↓aq_2s, ↓ai_3s, ↓al_3s, ↓av_3s, ↓aq_3s, ↓ai_4s, ↓al_4s, ↓av_4s, ↓aq_4s, ↓ai_5s, ↓al_5s, ↓av_5s, ↓aq_5s, ↓ai_6s, ↓al_6s, ↓av_6s, ↓aq_6s, ↓ai_7s, ↓al_7s, ↓av_7s, ↓aq_7s, ↓an_l3, ↓bk_28, ↓Sg_10, ↓Sg_11, ↓Sg_27, ↓kp_28_149, ↓an_t hc0, ↓an_rv hc0, ↓oW_e hc1, ↓bf1 hc2, ↓bf2 hc2, ↓oW_e hc3]
    exact hs
set_option maxHeartbeats 4000000 in
set_option maxRecDepth 100000 in
theorem rl_28_122 {C : px_C} (hn : px_nd (px_tb C)) {h : Nat} (hh : 131 ≤ h) (hC : px_ok C pn_i28 h) {k : Option px_V → px_M → Prop} {x0 : Nat} {σ : px_M} (hs : oW (f_28_122 (px_tb C) σ x0) (Sum.elim (fun s : px_M => ∀ (z1 : Option px_V) (z2 : Option px_V), px_W C k 68 [some (.inr (.inr (some x0))), z1, z2] [] s) (fun q => k (some (.inl q.1)) q.2))) : ∀ (z1 : Option px_V) (z2 : Option px_V), px_W C k 122 [some (.inr (.inr (some x0))), z1, z2] [] σ := by
  intro z1 z2
  refine px_runH (h - 1) ck_28 [(18, Sg_18 (f_18 (px_tb C)))] [(149, kp_28_149 (fun y0 τ => y0 = x0 ∧ oW (f_28_149 (px_tb C) τ y0) (Sum.elim (fun s : px_M => ∀ (z1 : Option px_V) (z2 : Option px_V), px_W C k 68 [some (.inr (.inr (some x0))), z1, z2] [] s) (fun q => k (some (.inl q.1)) q.2))))] 80 3 (some .int) rfl rfl hC (px_sp1 (mf_18 hn (by omega)) px_nosp) (by omega) (px_cut1 (kq_28_149 (fun y0 τ hq => by obtain ⟨rfl, hq⟩ := hq; exact rl_28_149 hn (by omega) hC  hq)) px_nocut) (fun G Jf hG hJf => ?_)
  unfold f_28_122 at hs
  obtain ⟨hc0, hs⟩ := oW_gx hs
  obtain ⟨q1, hc1, hs⟩ := oW_bx hs
  simp only [↓hG, ↓hJf, ↓px_vc, ↓px_ex, ↓px_jp, ↓px_gi, ↓px_gl, ↓px_gr, ↓px_s1, ↓px_s2, ↓px_nl, ↓px_i1, ↓px_l1, ↓r1_s, ↓px_q1, ↓px_i2, ↓px_l2, ↓px_il, ↓px_d0, ↓px_d1, ↓px_d2, ↓px_pop, ↓px_sp, ↓px_rd, ↓px_rf, ↓pn_xf, ↓px_pt, ↓px_sw, ↓pn_SW, ↓px_ma, ↓reduceIte, Nat.reduceEqDiff, Nat.reduceAdd, Nat.reduceSub, ↓Option.toList_some, ↓Option.toList_none, ↓List.cons_append, ↓List.nil_append, ↓kI_s, ↓kJ_s, ↓kN_s, ↓kO_s, ↓kZ_s, ↓kE_s, ↓an_rfl, ↓bt1 n00, ↓bt2 n00, ↓bf1 n10, ↓bf2 n10, ↓an_sz0, ↓an_sz1, ↓an_sz2, ↓an_sz3, ↓an_sz4, ↓an_ri, ↓an_rb0, ↓an_rb1, ↓an_b0, ↓an_b1, true_and, ↓ai_0s, ↓al_0s, ↓av_0s, ↓aq_0s, ↓ai_1s, ↓al_1s, ↓av_1s, ↓aq_1s, ↓ai_2s, ↓al_2s, ↓av_2s, ↓aq_2s, ↓ai_3s, ↓al_3s, ↓av_3s, ↓aq_3s, ↓ai_4s, ↓al_4s, ↓av_4s, ↓aq_4s, ↓ai_5s, ↓al_5s, ↓av_5s, ↓aq_5s, ↓ai_6s, ↓al_6s, ↓av_6s, ↓aq_6s, ↓ai_7s, ↓al_7s, ↓av_7s, ↓aq_7s, ↓an_l3, ↓bk_28, ↓Sg_18, ↓kp_28_149, ↓an_t hc0, ↓an_rv hc0, ↓oW_e hc1]
  exact hs
set_option maxHeartbeats 4000000 in
set_option maxRecDepth 100000 in
theorem rl_28_99 {C : px_C} (hn : px_nd (px_tb C)) {h : Nat} (hh : 131 ≤ h) (hC : px_ok C pn_i28 h) {k : Option px_V → px_M → Prop} {x0 : Nat} {σ : px_M} (hs : oW (f_28_99 (px_tb C) σ x0) (Sum.elim (fun s : px_M => ∀ (z1 : Option px_V) (z2 : Option px_V), px_W C k 68 [some (.inr (.inr (some x0))), z1, z2] [] s) (fun q => k (some (.inl q.1)) q.2))) : ∀ (z1 : Option px_V) (z2 : Option px_V), px_W C k 99 [some (.inr (.inr (some x0))), z1, z2] [] σ := by
  intro z1 z2
  refine px_runH (h - 1) ck_28 [(12, Sg_12 (f_12 (px_tb C))), (17, Sg_17 (f_17 (px_tb C)))] [(122, kp_28_122 (fun y0 τ => y0 = x0 ∧ oW (f_28_122 (px_tb C) τ y0) (Sum.elim (fun s : px_M => ∀ (z1 : Option px_V) (z2 : Option px_V), px_W C k 68 [some (.inr (.inr (some x0))), z1, z2] [] s) (fun q => k (some (.inl q.1)) q.2)))), (129, kp_28_129 (fun y0 τ => y0 = x0 ∧ oW (f_28_129 (px_tb C) τ y0) (Sum.elim (fun s : px_M => ∀ (z1 : Option px_V) (z2 : Option px_V), px_W C k 68 [some (.inr (.inr (some x0))), z1, z2] [] s) (fun q => k (some (.inl q.1)) q.2)))), (149, kp_28_149 (fun y0 τ => y0 = x0 ∧ oW (f_28_149 (px_tb C) τ y0) (Sum.elim (fun s : px_M => ∀ (z1 : Option px_V) (z2 : Option px_V), px_W C k 68 [some (.inr (.inr (some x0))), z1, z2] [] s) (fun q => k (some (.inl q.1)) q.2))))] 80 3 (some .int) rfl rfl hC (px_sp1 (mf_12 hn (by omega)) (px_sp1 (mf_17 hn (by omega)) px_nosp)) (by omega) (px_cut1 (kq_28_122 (fun y0 τ hq => by obtain ⟨rfl, hq⟩ := hq; exact rl_28_122 hn (by omega) hC  hq)) (px_cut1 (kq_28_129 (fun y0 τ hq => by obtain ⟨rfl, hq⟩ := hq; exact rl_28_129 hn (by omega) hC  hq)) (px_cut1 (kq_28_149 (fun y0 τ hq => by obtain ⟨rfl, hq⟩ := hq; exact rl_28_149 hn (by omega) hC  hq)) px_nocut))) (fun G Jf hG hJf => ?_)
  unfold f_28_99 at hs
  obtain ⟨hc0, hs⟩ := oW_gx hs
  obtain ⟨q1, hc1, hs⟩ := oW_bx hs
  by_cases hc2 : q1.1 = nI 0
  · replace hs := oW_t hs hc2
    obtain ⟨q2, hc3, hs⟩ := oW_bx hs
    by_cases hc4 : q2.1 = nI 0
    · replace hs := oW_t hs hc4
      simp only [↓hG, ↓hJf, ↓px_vc, ↓px_ex, ↓px_jp, ↓px_gi, ↓px_gl, ↓px_gr, ↓px_s1, ↓px_s2, ↓px_nl, ↓px_i1, ↓px_l1, ↓r1_s, ↓px_q1, ↓px_i2, ↓px_l2, ↓px_il, ↓px_d0, ↓px_d1, ↓px_d2, ↓px_pop, ↓px_sp, ↓px_rd, ↓px_rf, ↓pn_xf, ↓px_pt, ↓px_sw, ↓pn_SW, ↓px_ma, ↓reduceIte, Nat.reduceEqDiff, Nat.reduceAdd, Nat.reduceSub, ↓Option.toList_some, ↓Option.toList_none, ↓List.cons_append, ↓List.nil_append, ↓kI_s, ↓kJ_s, ↓kN_s, ↓kO_s, ↓kZ_s, ↓kE_s, ↓an_rfl, ↓bt1 n00, ↓bt2 n00, ↓bf1 n10, ↓bf2 n10, ↓an_sz0, ↓an_sz1, ↓an_sz2, ↓an_sz3, ↓an_sz4, ↓an_ri, ↓an_rb0, ↓an_rb1, ↓an_b0, ↓an_b1, true_and, ↓ai_0s, ↓al_0s, ↓av_0s, ↓aq_0s, ↓ai_1s, ↓al_1s, ↓av_1s, ↓aq_1s, ↓ai_2s, ↓al_2s, ↓av_2s, ↓aq_2s, ↓ai_3s, ↓al_3s, ↓av_3s, ↓aq_3s, ↓ai_4s, ↓al_4s, ↓av_4s, ↓aq_4s, ↓ai_5s, ↓al_5s, ↓av_5s, ↓aq_5s, ↓ai_6s, ↓al_6s, ↓av_6s, ↓aq_6s, ↓ai_7s, ↓al_7s, ↓av_7s, ↓aq_7s, ↓an_l3, ↓bk_28, ↓Sg_12, ↓Sg_17, ↓kp_28_122, ↓kp_28_129, ↓kp_28_149, ↓an_t hc0, ↓an_rv hc0, ↓oW_e hc1, ↓bt1 hc2, ↓bt2 hc2, ↓oW_e hc3, ↓bt1 hc4, ↓bt2 hc4]
      exact hs
    · replace hs := oW_f hs hc4
      simp only [↓hG, ↓hJf, ↓px_vc, ↓px_ex, ↓px_jp, ↓px_gi, ↓px_gl, ↓px_gr, ↓px_s1, ↓px_s2, ↓px_nl, ↓px_i1, ↓px_l1, ↓r1_s, ↓px_q1, ↓px_i2, ↓px_l2, ↓px_il, ↓px_d0, ↓px_d1, ↓px_d2, ↓px_pop, ↓px_sp, ↓px_rd, ↓px_rf, ↓pn_xf, ↓px_pt, ↓px_sw, ↓pn_SW, ↓px_ma, ↓reduceIte, Nat.reduceEqDiff, Nat.reduceAdd, Nat.reduceSub, ↓Option.toList_some, ↓Option.toList_none, ↓List.cons_append, ↓List.nil_append, ↓kI_s, ↓kJ_s, ↓kN_s, ↓kO_s, ↓kZ_s, ↓kE_s, ↓an_rfl, ↓bt1 n00, ↓bt2 n00, ↓bf1 n10, ↓bf2 n10, ↓an_sz0, ↓an_sz1, ↓an_sz2, ↓an_sz3, ↓an_sz4, ↓an_ri, ↓an_rb0, ↓an_rb1, ↓an_b0, ↓an_b1, true_and, ↓ai_0s, ↓al_0s, ↓av_0s, ↓aq_0s, ↓ai_1s, ↓al_1s, ↓av_1s, ↓aq_1s, ↓ai_2s, ↓al_2s, ↓av_2s, ↓aq_2s, ↓ai_3s, ↓al_3s, ↓av_3s, ↓aq_3s, ↓ai_4s, ↓al_4s, ↓av_4s, ↓aq_4s, ↓ai_5s, ↓al_5s, ↓av_5s, ↓aq_5s, ↓ai_6s, ↓al_6s, ↓av_6s, ↓aq_6s, ↓ai_7s, ↓al_7s, ↓av_7s, ↓aq_7s, ↓an_l3, ↓bk_28, ↓Sg_12, ↓Sg_17, ↓kp_28_122, ↓kp_28_129, ↓kp_28_149, ↓an_t hc0, ↓an_rv hc0, ↓oW_e hc1, ↓bt1 hc2, ↓bt2 hc2, ↓oW_e hc3, ↓bf1 hc4, ↓bf2 hc4]
      exact hs
  · replace hs := oW_f hs hc2
    obtain ⟨q3, hc3, hs⟩ := oW_bx hs
    simp only [↓hG, ↓hJf, ↓px_vc, ↓px_ex, ↓px_jp, ↓px_gi, ↓px_gl, ↓px_gr, ↓px_s1, ↓px_s2, ↓px_nl, ↓px_i1, ↓px_l1, ↓r1_s, ↓px_q1, ↓px_i2, ↓px_l2, ↓px_il, ↓px_d0, ↓px_d1, ↓px_d2, ↓px_pop, ↓px_sp, ↓px_rd, ↓px_rf, ↓pn_xf, ↓px_pt, ↓px_sw, ↓pn_SW, ↓px_ma, ↓reduceIte, Nat.reduceEqDiff, Nat.reduceAdd, Nat.reduceSub, ↓Option.toList_some, ↓Option.toList_none, ↓List.cons_append, ↓List.nil_append, ↓kI_s, ↓kJ_s, ↓kN_s, ↓kO_s, ↓kZ_s, ↓kE_s, ↓an_rfl, ↓bt1 n00, ↓bt2 n00, ↓bf1 n10, ↓bf2 n10, ↓an_sz0, ↓an_sz1, ↓an_sz2, ↓an_sz3, ↓an_sz4, ↓an_ri, ↓an_rb0, ↓an_rb1, ↓an_b0, ↓an_b1, true_and, ↓ai_0s, ↓al_0s, ↓av_0s, ↓aq_0s, ↓ai_1s, ↓al_1s, ↓av_1s, ↓aq_1s, ↓ai_2s, ↓al_2s, ↓av_2s, ↓aq_2s, ↓ai_3s, ↓al_3s, ↓av_3s, ↓aq_3s, ↓ai_4s, ↓al_4s, ↓av_4s, ↓aq_4s, ↓ai_5s, ↓al_5s, ↓av_5s, ↓aq_5s, ↓ai_6s, ↓al_6s, ↓av_6s, ↓aq_6s, ↓ai_7s, ↓al_7s, ↓av_7s, ↓aq_7s, ↓an_l3, ↓bk_28, ↓Sg_12, ↓Sg_17, ↓kp_28_122, ↓kp_28_129, ↓kp_28_149, ↓an_t hc0, ↓an_rv hc0, ↓oW_e hc1, ↓bf1 hc2, ↓bf2 hc2, ↓oW_e hc3]
    exact hs
set_option maxHeartbeats 4000000 in
set_option maxRecDepth 100000 in
theorem rl_28_92 {C : px_C} (hn : px_nd (px_tb C)) {h : Nat} (hh : 131 ≤ h) (hC : px_ok C pn_i28 h) {k : Option px_V → px_M → Prop} {x0 : Nat} {σ : px_M} (hs : oW (f_28_92 (px_tb C) σ x0) (Sum.elim (fun s : px_M => ∀ (z1 : Option px_V) (z2 : Option px_V), px_W C k 68 [some (.inr (.inr (some x0))), z1, z2] [] s) (fun q => k (some (.inl q.1)) q.2))) : ∀ (z1 : Option px_V) (z2 : Option px_V), px_W C k 92 [some (.inr (.inr (some x0))), z1, z2] [] σ := by
  intro z1 z2
  refine px_runH (h - 1) ck_28 [(16, Sg_16 (f_16 (px_tb C)))] [(149, kp_28_149 (fun y0 τ => y0 = x0 ∧ oW (f_28_149 (px_tb C) τ y0) (Sum.elim (fun s : px_M => ∀ (z1 : Option px_V) (z2 : Option px_V), px_W C k 68 [some (.inr (.inr (some x0))), z1, z2] [] s) (fun q => k (some (.inl q.1)) q.2))))] 80 3 (some .int) rfl rfl hC (px_sp1 (mf_16 hn (by omega)) px_nosp) (by omega) (px_cut1 (kq_28_149 (fun y0 τ hq => by obtain ⟨rfl, hq⟩ := hq; exact rl_28_149 hn (by omega) hC  hq)) px_nocut) (fun G Jf hG hJf => ?_)
  unfold f_28_92 at hs
  obtain ⟨hc0, hs⟩ := oW_gx hs
  obtain ⟨q1, hc1, hs⟩ := oW_bx hs
  simp only [↓hG, ↓hJf, ↓px_vc, ↓px_ex, ↓px_jp, ↓px_gi, ↓px_gl, ↓px_gr, ↓px_s1, ↓px_s2, ↓px_nl, ↓px_i1, ↓px_l1, ↓r1_s, ↓px_q1, ↓px_i2, ↓px_l2, ↓px_il, ↓px_d0, ↓px_d1, ↓px_d2, ↓px_pop, ↓px_sp, ↓px_rd, ↓px_rf, ↓pn_xf, ↓px_pt, ↓px_sw, ↓pn_SW, ↓px_ma, ↓reduceIte, Nat.reduceEqDiff, Nat.reduceAdd, Nat.reduceSub, ↓Option.toList_some, ↓Option.toList_none, ↓List.cons_append, ↓List.nil_append, ↓kI_s, ↓kJ_s, ↓kN_s, ↓kO_s, ↓kZ_s, ↓kE_s, ↓an_rfl, ↓bt1 n00, ↓bt2 n00, ↓bf1 n10, ↓bf2 n10, ↓an_sz0, ↓an_sz1, ↓an_sz2, ↓an_sz3, ↓an_sz4, ↓an_ri, ↓an_rb0, ↓an_rb1, ↓an_b0, ↓an_b1, true_and, ↓ai_0s, ↓al_0s, ↓av_0s, ↓aq_0s, ↓ai_1s, ↓al_1s, ↓av_1s, ↓aq_1s, ↓ai_2s, ↓al_2s, ↓av_2s, ↓aq_2s, ↓ai_3s, ↓al_3s, ↓av_3s, ↓aq_3s, ↓ai_4s, ↓al_4s, ↓av_4s, ↓aq_4s, ↓ai_5s, ↓al_5s, ↓av_5s, ↓aq_5s, ↓ai_6s, ↓al_6s, ↓av_6s, ↓aq_6s, ↓ai_7s, ↓al_7s, ↓av_7s, ↓aq_7s, ↓an_l3, ↓bk_28, ↓Sg_16, ↓kp_28_149, ↓an_t hc0, ↓an_rv hc0, ↓oW_e hc1]
  exact hs
set_option maxHeartbeats 4000000 in
set_option maxRecDepth 100000 in
theorem rl_28_68 {C : px_C} (hn : px_nd (px_tb C)) {h : Nat} (hh : 131 ≤ h) (hC : px_ok C pn_i28 h) {k : Option px_V → px_M → Prop} {x0 : Nat} : ∀ s : px_M, oW (f_28_68 (px_tb C) x0 s) (fun q => k (some (.inl q.1)) q.2) → (fun s : px_M => ∀ (z1 : Option px_V) (z2 : Option px_V), px_W C k 68 [some (.inr (.inr (some x0))), z1, z2] [] s) s := by
  intro s h0
  refine lpO_sound (P := (fun s : px_M => ∀ (z1 : Option px_V) (z2 : Option px_V), px_W C k 68 [some (.inr (.inr (some x0))), z1, z2] [] s)) (fun s hs => ?_) h0
  revert hs
  generalize s = σ
  intro hs
  intro z1 z2
  refine px_runH (h - 1) ck_28 [(12, Sg_12 (f_12 (px_tb C)))] [(92, kp_28_92 (fun y0 τ => y0 = x0 ∧ oW (f_28_92 (px_tb C) τ y0) (Sum.elim (fun s : px_M => ∀ (z1 : Option px_V) (z2 : Option px_V), px_W C k 68 [some (.inr (.inr (some x0))), z1, z2] [] s) (fun q => k (some (.inl q.1)) q.2)))), (99, kp_28_99 (fun y0 τ => y0 = x0 ∧ oW (f_28_99 (px_tb C) τ y0) (Sum.elim (fun s : px_M => ∀ (z1 : Option px_V) (z2 : Option px_V), px_W C k 68 [some (.inr (.inr (some x0))), z1, z2] [] s) (fun q => k (some (.inl q.1)) q.2)))), (176, kp_28_176 (fun y0 τ => oW (f_28_176 (px_tb C) τ y0) (fun q => k (some (.inl q.1)) q.2)))] 80 3 (some .int) rfl rfl hC (px_sp1 (mf_12 hn (by omega)) px_nosp) (by omega) (px_cut1 (kq_28_92 (fun y0 τ hq => by obtain ⟨rfl, hq⟩ := hq; exact rl_28_92 hn (by omega) hC  hq)) (px_cut1 (kq_28_99 (fun y0 τ hq => by obtain ⟨rfl, hq⟩ := hq; exact rl_28_99 hn (by omega) hC  hq)) (px_cut1 (kq_28_176 (fun y0 τ hq => by exact rl_28_176 hn (by omega) hC  hq)) px_nocut))) (fun G Jf hG hJf => ?_)
  replace hs : oW (F_28_68 (px_tb C) x0 σ) _ := hs
  unfold F_28_68 at hs
  obtain ⟨hc0, hs⟩ := oW_gx hs
  by_cases hc1 : ((σ).1 x0 11) = nI 0
  · replace hs := bW_t hs hc1
    by_cases hc2 : ((σ).1 x0 9) = (nI 17)
    · replace hs := oW_t hs hc2
      simp only [↓hG, ↓hJf, ↓px_vc, ↓px_ex, ↓px_jp, ↓px_gi, ↓px_gl, ↓px_gr, ↓px_s1, ↓px_s2, ↓px_nl, ↓px_i1, ↓px_l1, ↓r1_s, ↓px_q1, ↓px_i2, ↓px_l2, ↓px_il, ↓px_d0, ↓px_d1, ↓px_d2, ↓px_pop, ↓px_sp, ↓px_rd, ↓px_rf, ↓pn_xf, ↓px_pt, ↓px_sw, ↓pn_SW, ↓px_ma, ↓reduceIte, Nat.reduceEqDiff, Nat.reduceAdd, Nat.reduceSub, ↓Option.toList_some, ↓Option.toList_none, ↓List.cons_append, ↓List.nil_append, ↓kI_s, ↓kJ_s, ↓kN_s, ↓kO_s, ↓kZ_s, ↓kE_s, ↓an_rfl, ↓bt1 n00, ↓bt2 n00, ↓bf1 n10, ↓bf2 n10, ↓an_sz0, ↓an_sz1, ↓an_sz2, ↓an_sz3, ↓an_sz4, ↓an_ri, ↓an_rb0, ↓an_rb1, ↓an_b0, ↓an_b1, true_and, ↓ai_0s, ↓al_0s, ↓av_0s, ↓aq_0s, ↓ai_1s, ↓al_1s, ↓av_1s, ↓aq_1s, ↓ai_2s, ↓al_2s, ↓av_2s, ↓aq_2s, ↓ai_3s, ↓al_3s, ↓av_3s, ↓aq_3s, ↓ai_4s, ↓al_4s, ↓av_4s, ↓aq_4s, ↓ai_5s, ↓al_5s, ↓av_5s, ↓aq_5s, ↓ai_6s, ↓al_6s, ↓av_6s, ↓aq_6s, ↓ai_7s, ↓al_7s, ↓av_7s, ↓aq_7s, ↓an_l3, ↓bk_28, ↓Sg_12, ↓kp_28_92, ↓kp_28_99, ↓kp_28_176, ↓an_t hc0, ↓an_rv hc0, ↓bt1 hc1, ↓bt2 hc1, ↓bt1 hc2, ↓bt2 hc2]
      simp only [oW_map] at hs
      exact hs
    · replace hs := oW_f hs hc2
      obtain ⟨q1, hc3, hs⟩ := oW_bx hs
      by_cases hc4 : q1.1 = nI 0
      · replace hs := oW_t hs hc4
        simp only [↓hG, ↓hJf, ↓px_vc, ↓px_ex, ↓px_jp, ↓px_gi, ↓px_gl, ↓px_gr, ↓px_s1, ↓px_s2, ↓px_nl, ↓px_i1, ↓px_l1, ↓r1_s, ↓px_q1, ↓px_i2, ↓px_l2, ↓px_il, ↓px_d0, ↓px_d1, ↓px_d2, ↓px_pop, ↓px_sp, ↓px_rd, ↓px_rf, ↓pn_xf, ↓px_pt, ↓px_sw, ↓pn_SW, ↓px_ma, ↓reduceIte, Nat.reduceEqDiff, Nat.reduceAdd, Nat.reduceSub, ↓Option.toList_some, ↓Option.toList_none, ↓List.cons_append, ↓List.nil_append, ↓kI_s, ↓kJ_s, ↓kN_s, ↓kO_s, ↓kZ_s, ↓kE_s, ↓an_rfl, ↓bt1 n00, ↓bt2 n00, ↓bf1 n10, ↓bf2 n10, ↓an_sz0, ↓an_sz1, ↓an_sz2, ↓an_sz3, ↓an_sz4, ↓an_ri, ↓an_rb0, ↓an_rb1, ↓an_b0, ↓an_b1, true_and, ↓ai_0s, ↓al_0s, ↓av_0s, ↓aq_0s, ↓ai_1s, ↓al_1s, ↓av_1s, ↓aq_1s, ↓ai_2s, ↓al_2s, ↓av_2s, ↓aq_2s, ↓ai_3s, ↓al_3s, ↓av_3s, ↓aq_3s, ↓ai_4s, ↓al_4s, ↓av_4s, ↓aq_4s, ↓ai_5s, ↓al_5s, ↓av_5s, ↓aq_5s, ↓ai_6s, ↓al_6s, ↓av_6s, ↓aq_6s, ↓ai_7s, ↓al_7s, ↓av_7s, ↓aq_7s, ↓an_l3, ↓bk_28, ↓Sg_12, ↓kp_28_92, ↓kp_28_99, ↓kp_28_176, ↓an_t hc0, ↓an_rv hc0, ↓bt1 hc1, ↓bt2 hc1, ↓bf1 hc2, ↓bf2 hc2, ↓oW_e hc3, ↓bt1 hc4, ↓bt2 hc4]
        exact hs
      · replace hs := oW_f hs hc4
        simp only [↓hG, ↓hJf, ↓px_vc, ↓px_ex, ↓px_jp, ↓px_gi, ↓px_gl, ↓px_gr, ↓px_s1, ↓px_s2, ↓px_nl, ↓px_i1, ↓px_l1, ↓r1_s, ↓px_q1, ↓px_i2, ↓px_l2, ↓px_il, ↓px_d0, ↓px_d1, ↓px_d2, ↓px_pop, ↓px_sp, ↓px_rd, ↓px_rf, ↓pn_xf, ↓px_pt, ↓px_sw, ↓pn_SW, ↓px_ma, ↓reduceIte, Nat.reduceEqDiff, Nat.reduceAdd, Nat.reduceSub, ↓Option.toList_some, ↓Option.toList_none, ↓List.cons_append, ↓List.nil_append, ↓kI_s, ↓kJ_s, ↓kN_s, ↓kO_s, ↓kZ_s, ↓kE_s, ↓an_rfl, ↓bt1 n00, ↓bt2 n00, ↓bf1 n10, ↓bf2 n10, ↓an_sz0, ↓an_sz1, ↓an_sz2, ↓an_sz3, ↓an_sz4, ↓an_ri, ↓an_rb0, ↓an_rb1, ↓an_b0, ↓an_b1, true_and, ↓ai_0s, ↓al_0s, ↓av_0s, ↓aq_0s, ↓ai_1s, ↓al_1s, ↓av_1s, ↓aq_1s, ↓ai_2s, ↓al_2s, ↓av_2s, ↓aq_2s, ↓ai_3s, ↓al_3s, ↓av_3s, ↓aq_3s, ↓ai_4s, ↓al_4s, ↓av_4s, ↓aq_4s, ↓ai_5s, ↓al_5s, ↓av_5s, ↓aq_5s, ↓ai_6s, ↓al_6s, ↓av_6s, ↓aq_6s, ↓ai_7s, ↓al_7s, ↓av_7s, ↓aq_7s, ↓an_l3, ↓bk_28, ↓Sg_12, ↓kp_28_92, ↓kp_28_99, ↓kp_28_176, ↓an_t hc0, ↓an_rv hc0, ↓bt1 hc1, ↓bt2 hc1, ↓bf1 hc2, ↓bf2 hc2, ↓oW_e hc3, ↓bf1 hc4, ↓bf2 hc4]
        exact hs
  · replace hs := bW_f hs hc1
    simp only [↓hG, ↓hJf, ↓px_vc, ↓px_ex, ↓px_jp, ↓px_gi, ↓px_gl, ↓px_gr, ↓px_s1, ↓px_s2, ↓px_nl, ↓px_i1, ↓px_l1, ↓r1_s, ↓px_q1, ↓px_i2, ↓px_l2, ↓px_il, ↓px_d0, ↓px_d1, ↓px_d2, ↓px_pop, ↓px_sp, ↓px_rd, ↓px_rf, ↓pn_xf, ↓px_pt, ↓px_sw, ↓pn_SW, ↓px_ma, ↓reduceIte, Nat.reduceEqDiff, Nat.reduceAdd, Nat.reduceSub, ↓Option.toList_some, ↓Option.toList_none, ↓List.cons_append, ↓List.nil_append, ↓kI_s, ↓kJ_s, ↓kN_s, ↓kO_s, ↓kZ_s, ↓kE_s, ↓an_rfl, ↓bt1 n00, ↓bt2 n00, ↓bf1 n10, ↓bf2 n10, ↓an_sz0, ↓an_sz1, ↓an_sz2, ↓an_sz3, ↓an_sz4, ↓an_ri, ↓an_rb0, ↓an_rb1, ↓an_b0, ↓an_b1, true_and, ↓ai_0s, ↓al_0s, ↓av_0s, ↓aq_0s, ↓ai_1s, ↓al_1s, ↓av_1s, ↓aq_1s, ↓ai_2s, ↓al_2s, ↓av_2s, ↓aq_2s, ↓ai_3s, ↓al_3s, ↓av_3s, ↓aq_3s, ↓ai_4s, ↓al_4s, ↓av_4s, ↓aq_4s, ↓ai_5s, ↓al_5s, ↓av_5s, ↓aq_5s, ↓ai_6s, ↓al_6s, ↓av_6s, ↓aq_6s, ↓ai_7s, ↓al_7s, ↓av_7s, ↓aq_7s, ↓an_l3, ↓bk_28, ↓Sg_12, ↓kp_28_92, ↓kp_28_99, ↓kp_28_176, ↓an_t hc0, ↓an_rv hc0, ↓bf1 hc1, ↓bf2 hc1]
    simp only [oW_map] at hs
    exact hs
set_option maxHeartbeats 4000000 in
set_option maxRecDepth 100000 in
theorem rl_28_44 {C : px_C} (hn : px_nd (px_tb C)) {h : Nat} (hh : 131 ≤ h) (hC : px_ok C pn_i28 h) {k : Option px_V → px_M → Prop} {x0 : Nat} : ∀ s : Int32 × px_M, oW (f_28_44 (px_tb C) x0 s.1 s.2) (fun q => k (some (.inl q.1)) q.2) → (fun s : Int32 × px_M => ∀ (z1 : Option px_V), px_W C k 44 [some (.inr (.inr (some x0))), z1, some (.inl s.1)] [] s.2) s := by
  intro s h0
  refine lpO_sound (P := (fun s : Int32 × px_M => ∀ (z1 : Option px_V), px_W C k 44 [some (.inr (.inr (some x0))), z1, some (.inl s.1)] [] s.2)) (fun s hs => ?_) h0
  obtain ⟨x2, σ⟩ := s
  intro z1
  refine px_runH (h - 1) ck_28 [(9, Sg_9 (f_9 (px_tb C)))] [(44, kp_28_44 (fun y0 y2 τ => y0 = x0 ∧ (fun s : Int32 × px_M => ∀ (z1 : Option px_V), px_W C k 44 [some (.inr (.inr (some x0))), z1, some (.inl s.1)] [] s.2) (y2, τ))), (68, kp_28_68 (fun y0 τ => oW (f_28_68 (px_tb C) y0 τ) (fun q => k (some (.inl q.1)) q.2)))] 80 3 (some .int) rfl rfl hC (px_sp1 (mf_9 hn (by omega)) px_nosp) (by omega) (px_cut1 (kq_28_44 (fun y0 y2 τ hq => by obtain ⟨rfl, hq⟩ := hq; exact hq)) (px_cut1 (kq_28_68 (fun y0 τ hq => by exact rl_28_68 hn (by omega) hC τ hq)) px_nocut)) (fun G Jf hG hJf => ?_)
  replace hs : oW (F_28_44 (px_tb C) x0 x2 σ) _ := hs
  unfold F_28_44 at hs
  by_cases hc0 : (nI 1072) ≤ x2
  · replace hs := oW_t hs hc0
    obtain ⟨hc1, hs⟩ := oW_gx hs
    obtain ⟨q1, hc2, hs⟩ := oW_bx hs
    simp only [↓hG, ↓hJf, ↓px_vc, ↓px_ex, ↓px_jp, ↓px_gi, ↓px_gl, ↓px_gr, ↓px_s1, ↓px_s2, ↓px_nl, ↓px_i1, ↓px_l1, ↓r1_s, ↓px_q1, ↓px_i2, ↓px_l2, ↓px_il, ↓px_d0, ↓px_d1, ↓px_d2, ↓px_pop, ↓px_sp, ↓px_rd, ↓px_rf, ↓pn_xf, ↓px_pt, ↓px_sw, ↓pn_SW, ↓px_ma, ↓reduceIte, Nat.reduceEqDiff, Nat.reduceAdd, Nat.reduceSub, ↓Option.toList_some, ↓Option.toList_none, ↓List.cons_append, ↓List.nil_append, ↓kI_s, ↓kJ_s, ↓kN_s, ↓kO_s, ↓kZ_s, ↓kE_s, ↓an_rfl, ↓bt1 n00, ↓bt2 n00, ↓bf1 n10, ↓bf2 n10, ↓an_sz0, ↓an_sz1, ↓an_sz2, ↓an_sz3, ↓an_sz4, ↓an_ri, ↓an_rb0, ↓an_rb1, ↓an_b0, ↓an_b1, true_and, ↓ai_0s, ↓al_0s, ↓av_0s, ↓aq_0s, ↓ai_1s, ↓al_1s, ↓av_1s, ↓aq_1s, ↓ai_2s, ↓al_2s, ↓av_2s, ↓aq_2s, ↓ai_3s, ↓al_3s, ↓av_3s, ↓aq_3s, ↓ai_4s, ↓al_4s, ↓av_4s, ↓aq_4s, ↓ai_5s, ↓al_5s, ↓av_5s, ↓aq_5s, ↓ai_6s, ↓al_6s, ↓av_6s, ↓aq_6s, ↓ai_7s, ↓al_7s, ↓av_7s, ↓aq_7s, ↓an_l3, ↓bk_28, ↓Sg_9, ↓kp_28_44, ↓kp_28_68, ↓bt1 hc0, ↓bt2 hc0, ↓an_t hc1, ↓an_rv hc1, ↓oW_e hc2]
    simp only [oW_map] at hs
    exact hs
  · replace hs := oW_f hs hc0
    obtain ⟨hc1, hs⟩ := oW_gx hs
    obtain ⟨n2, hc2, hs⟩ := oW_bx hs
    obtain ⟨t3, l4, hc3, hs⟩ := oW_ax hs
    obtain ⟨hc4, hs⟩ := oW_gx hs
    obtain ⟨hc5, hs⟩ := oW_gx hs
    simp only [↓hG, ↓hJf, ↓px_vc, ↓px_ex, ↓px_jp, ↓px_gi, ↓px_gl, ↓px_gr, ↓px_s1, ↓px_s2, ↓px_nl, ↓px_i1, ↓px_l1, ↓r1_s, ↓px_q1, ↓px_i2, ↓px_l2, ↓px_il, ↓px_d0, ↓px_d1, ↓px_d2, ↓px_pop, ↓px_sp, ↓px_rd, ↓px_rf, ↓pn_xf, ↓px_pt, ↓px_sw, ↓pn_SW, ↓px_ma, ↓reduceIte, Nat.reduceEqDiff, Nat.reduceAdd, Nat.reduceSub, ↓Option.toList_some, ↓Option.toList_none, ↓List.cons_append, ↓List.nil_append, ↓kI_s, ↓kJ_s, ↓kN_s, ↓kO_s, ↓kZ_s, ↓kE_s, ↓an_rfl, ↓bt1 n00, ↓bt2 n00, ↓bf1 n10, ↓bf2 n10, ↓an_sz0, ↓an_sz1, ↓an_sz2, ↓an_sz3, ↓an_sz4, ↓an_ri, ↓an_rb0, ↓an_rb1, ↓an_b0, ↓an_b1, true_and, ↓ai_0s, ↓al_0s, ↓av_0s, ↓aq_0s, ↓ai_1s, ↓al_1s, ↓av_1s, ↓aq_1s, ↓ai_2s, ↓al_2s, ↓av_2s, ↓aq_2s, ↓ai_3s, ↓al_3s, ↓av_3s, ↓aq_3s, ↓ai_4s, ↓al_4s, ↓av_4s, ↓aq_4s, ↓ai_5s, ↓al_5s, ↓av_5s, ↓aq_5s, ↓ai_6s, ↓al_6s, ↓av_6s, ↓aq_6s, ↓ai_7s, ↓al_7s, ↓av_7s, ↓aq_7s, ↓an_l3, ↓bk_28, ↓Sg_9, ↓kp_28_44, ↓kp_28_68, ↓bf1 hc0, ↓bf2 hc0, ↓an_t hc1, ↓an_rv hc1, ↓r1_e hc2, ↓av_0e hc2, ↓av_1e hc2, ↓av_2e hc2, ↓av_3e hc2, ↓ar_e hc3, ↓an_t hc4, ↓an_t hc5]
    rw [oW_some] at hs
    exact hs
set_option maxHeartbeats 4000000 in
set_option maxRecDepth 100000 in
theorem rl_28_22 {C : px_C} (hn : px_nd (px_tb C)) {h : Nat} (hh : 131 ≤ h) (hC : px_ok C pn_i28 h) {k : Option px_V → px_M → Prop} {x0 : Nat} {x1 : Int32} {σ : px_M} (hs : oW (f_28_22 (px_tb C) σ x0 x1) (fun q => k (some (.inl q.1)) q.2)) : ∀ (z2 : Option px_V), px_W C k 22 [some (.inr (.inr (some x0))), some (.inl x1), z2] [] σ := by
  intro z2
  refine px_runH (h - 1) ck_28 [] [(44, kp_28_44 (fun y0 y2 τ => oW (f_28_44 (px_tb C) y0 y2 τ) (fun q => k (some (.inl q.1)) q.2)))] 80 3 (some .int) rfl rfl hC px_nosp (by omega) (px_cut1 (kq_28_44 (fun y0 y2 τ hq => by exact rl_28_44 hn (by omega) hC (y2, τ) hq)) px_nocut) (fun G Jf hG hJf => ?_)
  unfold f_28_22 at hs
  obtain ⟨hc0, hs⟩ := oW_gx hs
  simp only [↓hG, ↓hJf, ↓px_vc, ↓px_ex, ↓px_jp, ↓px_gi, ↓px_gl, ↓px_gr, ↓px_s1, ↓px_s2, ↓px_nl, ↓px_i1, ↓px_l1, ↓r1_s, ↓px_q1, ↓px_i2, ↓px_l2, ↓px_il, ↓px_d0, ↓px_d1, ↓px_d2, ↓px_pop, ↓px_sp, ↓px_rd, ↓px_rf, ↓pn_xf, ↓px_pt, ↓px_sw, ↓pn_SW, ↓px_ma, ↓reduceIte, Nat.reduceEqDiff, Nat.reduceAdd, Nat.reduceSub, ↓Option.toList_some, ↓Option.toList_none, ↓List.cons_append, ↓List.nil_append, ↓kI_s, ↓kJ_s, ↓kN_s, ↓kO_s, ↓kZ_s, ↓kE_s, ↓an_rfl, ↓bt1 n00, ↓bt2 n00, ↓bf1 n10, ↓bf2 n10, ↓an_sz0, ↓an_sz1, ↓an_sz2, ↓an_sz3, ↓an_sz4, ↓an_ri, ↓an_rb0, ↓an_rb1, ↓an_b0, ↓an_b1, true_and, ↓ai_0s, ↓al_0s, ↓av_0s, ↓aq_0s, ↓ai_1s, ↓al_1s, ↓av_1s, ↓aq_1s, ↓ai_2s, ↓al_2s, ↓av_2s, ↓aq_2s, ↓ai_3s, ↓al_3s, ↓av_3s, ↓aq_3s, ↓ai_4s, ↓al_4s, ↓av_4s, ↓aq_4s, ↓ai_5s, ↓al_5s, ↓av_5s, ↓aq_5s, ↓ai_6s, ↓al_6s, ↓av_6s, ↓aq_6s, ↓ai_7s, ↓al_7s, ↓av_7s, ↓aq_7s, ↓an_l3, ↓bk_28, ↓kp_28_44, ↓an_t hc0, ↓an_rv hc0]
  exact hs
set_option maxHeartbeats 4000000 in
set_option maxRecDepth 100000 in
theorem rl_28_19 {C : px_C} (hn : px_nd (px_tb C)) {h : Nat} (hh : 131 ≤ h) (hC : px_ok C pn_i28 h) {k : Option px_V → px_M → Prop} {σ : px_M} (hs : oW (f_28_19 (px_tb C) σ) (fun q => k (some (.inl q.1)) q.2)) : ∀ (z0 : Option px_V) (z1 : Option px_V) (z2 : Option px_V), px_W C k 19 [z0, z1, z2] [] σ := by
  intro z0 z1 z2
  refine px_runH (h - 1) ck_28 [] [] 80 3 (some .int) rfl rfl hC px_nosp (by omega) px_nocut (fun G Jf hG hJf => ?_)
  unfold f_28_19 at hs
  simp only [↓hG, ↓hJf, ↓px_vc, ↓px_ex, ↓px_jp, ↓px_gi, ↓px_gl, ↓px_gr, ↓px_s1, ↓px_s2, ↓px_nl, ↓px_i1, ↓px_l1, ↓r1_s, ↓px_q1, ↓px_i2, ↓px_l2, ↓px_il, ↓px_d0, ↓px_d1, ↓px_d2, ↓px_pop, ↓px_sp, ↓px_rd, ↓px_rf, ↓pn_xf, ↓px_pt, ↓px_sw, ↓pn_SW, ↓px_ma, ↓reduceIte, Nat.reduceEqDiff, Nat.reduceAdd, Nat.reduceSub, ↓Option.toList_some, ↓Option.toList_none, ↓List.cons_append, ↓List.nil_append, ↓kI_s, ↓kJ_s, ↓kN_s, ↓kO_s, ↓kZ_s, ↓kE_s, ↓an_rfl, ↓bt1 n00, ↓bt2 n00, ↓bf1 n10, ↓bf2 n10, ↓an_sz0, ↓an_sz1, ↓an_sz2, ↓an_sz3, ↓an_sz4, ↓an_ri, ↓an_rb0, ↓an_rb1, ↓an_b0, ↓an_b1, true_and, ↓ai_0s, ↓al_0s, ↓av_0s, ↓aq_0s, ↓ai_1s, ↓al_1s, ↓av_1s, ↓aq_1s, ↓ai_2s, ↓al_2s, ↓av_2s, ↓aq_2s, ↓ai_3s, ↓al_3s, ↓av_3s, ↓aq_3s, ↓ai_4s, ↓al_4s, ↓av_4s, ↓aq_4s, ↓ai_5s, ↓al_5s, ↓av_5s, ↓aq_5s, ↓ai_6s, ↓al_6s, ↓av_6s, ↓aq_6s, ↓ai_7s, ↓al_7s, ↓av_7s, ↓aq_7s, ↓an_l3, ↓bk_28]
  rw [oW_some] at hs
  exact hs
set_option maxHeartbeats 4000000 in
set_option maxRecDepth 100000 in
theorem mf_28 {tab : px_T} (hn : px_nd tab) {h : Nat} (hh : 131 ≤ h) : px_Ok tab pn_i28 h (Sg_28 (f_28 tab)) := by
  refine px_mth hn (by decide +kernel) (fun av σ k hS => ?_) (fun C hT hC av σ k hS => ?_)
  · obtain ⟨x0, av0, e0, h0⟩ := av_0p hS
    obtain ⟨x1, av1, e1, h1⟩ := ai_1p h0
    obtain ⟨ez, hs⟩ := h1
    subst ez
    subst e1
    subst e0
    exact Nat.le_of_ble_eq_true rfl
  · obtain ⟨x0, av0, e0, h0⟩ := av_0p hS
    obtain ⟨x1, av1, e1, h1⟩ := ai_1p h0
    obtain ⟨ez, hs⟩ := h1
    subst ez
    subst e1
    subst e0
    subst hT
    show px_W C k 0 [some (.inr (.inr (some x0))), some (.inl x1), none] [] σ
    refine px_runH (h - 1) ck_28 [(2, Sg_2 (f_2 (px_tb C)))] [(19, kp_28_19 (fun τ => oW (f_28_19 (px_tb C) τ) (fun q => k (some (.inl q.1)) q.2))), (22, kp_28_22 (fun y0 y1 τ => oW (f_28_22 (px_tb C) τ y0 y1) (fun q => k (some (.inl q.1)) q.2)))] 80 3 (some .int) rfl rfl hC (px_sp1 (mf_2 hn (by omega)) px_nosp) (by omega) (px_cut1 (kq_28_19 (fun τ hq => by exact rl_28_19 hn (by omega) hC  hq)) (px_cut1 (kq_28_22 (fun y0 y1 τ hq => by exact rl_28_22 hn (by omega) hC  hq)) px_nocut)) (fun G Jf hG hJf => ?_)
    unfold f_28 at hs
    obtain ⟨hc0, hs⟩ := oW_gx hs
    obtain ⟨r1, hc1, hs⟩ := oW_bx hs
    by_cases hc2 : r1 = nI 0
    · replace hs := bW_t hs hc2
      simp only [↓hG, ↓hJf, ↓px_vc, ↓px_ex, ↓px_jp, ↓px_gi, ↓px_gl, ↓px_gr, ↓px_s1, ↓px_s2, ↓px_nl, ↓px_i1, ↓px_l1, ↓r1_s, ↓px_q1, ↓px_i2, ↓px_l2, ↓px_il, ↓px_d0, ↓px_d1, ↓px_d2, ↓px_pop, ↓px_sp, ↓px_rd, ↓px_rf, ↓pn_xf, ↓px_pt, ↓px_sw, ↓pn_SW, ↓px_ma, ↓reduceIte, Nat.reduceEqDiff, Nat.reduceAdd, Nat.reduceSub, ↓Option.toList_some, ↓Option.toList_none, ↓List.cons_append, ↓List.nil_append, ↓kI_s, ↓kJ_s, ↓kN_s, ↓kO_s, ↓kZ_s, ↓kE_s, ↓an_rfl, ↓bt1 n00, ↓bt2 n00, ↓bf1 n10, ↓bf2 n10, ↓an_sz0, ↓an_sz1, ↓an_sz2, ↓an_sz3, ↓an_sz4, ↓an_ri, ↓an_rb0, ↓an_rb1, ↓an_b0, ↓an_b1, true_and, ↓ai_0s, ↓al_0s, ↓av_0s, ↓aq_0s, ↓ai_1s, ↓al_1s, ↓av_1s, ↓aq_1s, ↓ai_2s, ↓al_2s, ↓av_2s, ↓aq_2s, ↓ai_3s, ↓al_3s, ↓av_3s, ↓aq_3s, ↓ai_4s, ↓al_4s, ↓av_4s, ↓aq_4s, ↓ai_5s, ↓al_5s, ↓av_5s, ↓aq_5s, ↓ai_6s, ↓al_6s, ↓av_6s, ↓aq_6s, ↓ai_7s, ↓al_7s, ↓av_7s, ↓aq_7s, ↓an_l3, ↓bk_28, ↓Sg_2, ↓kp_28_19, ↓kp_28_22, ↓an_t hc0, ↓an_rv hc0, ↓oW_e hc1, ↓bt1 hc2, ↓bt2 hc2]
      exact hs
    · replace hs := bW_f hs hc2
      simp only [↓hG, ↓hJf, ↓px_vc, ↓px_ex, ↓px_jp, ↓px_gi, ↓px_gl, ↓px_gr, ↓px_s1, ↓px_s2, ↓px_nl, ↓px_i1, ↓px_l1, ↓r1_s, ↓px_q1, ↓px_i2, ↓px_l2, ↓px_il, ↓px_d0, ↓px_d1, ↓px_d2, ↓px_pop, ↓px_sp, ↓px_rd, ↓px_rf, ↓pn_xf, ↓px_pt, ↓px_sw, ↓pn_SW, ↓px_ma, ↓reduceIte, Nat.reduceEqDiff, Nat.reduceAdd, Nat.reduceSub, ↓Option.toList_some, ↓Option.toList_none, ↓List.cons_append, ↓List.nil_append, ↓kI_s, ↓kJ_s, ↓kN_s, ↓kO_s, ↓kZ_s, ↓kE_s, ↓an_rfl, ↓bt1 n00, ↓bt2 n00, ↓bf1 n10, ↓bf2 n10, ↓an_sz0, ↓an_sz1, ↓an_sz2, ↓an_sz3, ↓an_sz4, ↓an_ri, ↓an_rb0, ↓an_rb1, ↓an_b0, ↓an_b1, true_and, ↓ai_0s, ↓al_0s, ↓av_0s, ↓aq_0s, ↓ai_1s, ↓al_1s, ↓av_1s, ↓aq_1s, ↓ai_2s, ↓al_2s, ↓av_2s, ↓aq_2s, ↓ai_3s, ↓al_3s, ↓av_3s, ↓aq_3s, ↓ai_4s, ↓al_4s, ↓av_4s, ↓aq_4s, ↓ai_5s, ↓al_5s, ↓av_5s, ↓aq_5s, ↓ai_6s, ↓al_6s, ↓av_6s, ↓aq_6s, ↓ai_7s, ↓al_7s, ↓av_7s, ↓aq_7s, ↓an_l3, ↓bk_28, ↓Sg_2, ↓kp_28_19, ↓kp_28_22, ↓an_t hc0, ↓an_rv hc0, ↓oW_e hc1, ↓bf1 hc2, ↓bf2 hc2]
      exact hs
def Sg_29 (g : px_M → Nat → Int32 → Option (Int32 × px_M)) : px_S := fun av σ k => av_0 av (fun x0 av => ai_1 av (fun x1 av => av = [] ∧ oW (g σ x0 x1) (fun q => k (some (.inl q.1)) q.2)))
/-- NoThreeModel.fault(I)I -/
noncomputable def f_29 (tab : px_T) (σ : px_M) (x0 : Nat) (x1 : Int32) : Option (Int32 × px_M) := gd (px_obj (px_lay tab x0) 0) (bn (x1 = nI 0) (bn (x1 = (nI 1)) (some (((-1), (px_wi σ x0 0 (nI 0))))) (some (((((px_wi σ x0 0 (nI 0))).1 x0 14), (px_wi σ x0 0 (nI 0)))))) (some (((((px_wi σ x0 0 (nI 0))).1 x0 13), (px_wi σ x0 0 (nI 0))))))
set_option maxHeartbeats 4000000 in
set_option maxRecDepth 100000 in
theorem mf_29 {tab : px_T} (hn : px_nd tab) {h : Nat} (hh : 1 ≤ h) : px_Ok tab pn_i29 h (Sg_29 (f_29 tab)) := by
  refine px_mth hn (by decide +kernel) (fun av σ k hS => ?_) (fun C hT hC av σ k hS => ?_)
  · obtain ⟨x0, av0, e0, h0⟩ := av_0p hS
    obtain ⟨x1, av1, e1, h1⟩ := ai_1p h0
    obtain ⟨ez, hs⟩ := h1
    subst ez
    subst e1
    subst e0
    exact Nat.le_of_ble_eq_true rfl
  · obtain ⟨x0, av0, e0, h0⟩ := av_0p hS
    obtain ⟨x1, av1, e1, h1⟩ := ai_1p h0
    obtain ⟨ez, hs⟩ := h1
    subst ez
    subst e1
    subst e0
    subst hT
    show px_W C k 0 [some (.inr (.inr (some x0))), some (.inl x1)] [] σ
    refine px_runH (h - 1) ck_29 [] [] 80 2 (some .int) rfl rfl hC px_nosp (by omega) px_nocut (fun G Jf hG hJf => ?_)
    unfold f_29 at hs
    obtain ⟨hc0, hs⟩ := oW_gx hs
    by_cases hc1 : x1 = nI 0
    · replace hs := bW_t hs hc1
      simp only [↓hG, ↓hJf, ↓px_vc, ↓px_ex, ↓px_jp, ↓px_gi, ↓px_gl, ↓px_gr, ↓px_s1, ↓px_s2, ↓px_nl, ↓px_i1, ↓px_l1, ↓r1_s, ↓px_q1, ↓px_i2, ↓px_l2, ↓px_il, ↓px_d0, ↓px_d1, ↓px_d2, ↓px_pop, ↓px_sp, ↓px_rd, ↓px_rf, ↓pn_xf, ↓px_pt, ↓px_sw, ↓pn_SW, ↓px_ma, ↓reduceIte, Nat.reduceEqDiff, Nat.reduceAdd, Nat.reduceSub, ↓Option.toList_some, ↓Option.toList_none, ↓List.cons_append, ↓List.nil_append, ↓kI_s, ↓kJ_s, ↓kN_s, ↓kO_s, ↓kZ_s, ↓kE_s, ↓an_rfl, ↓bt1 n00, ↓bt2 n00, ↓bf1 n10, ↓bf2 n10, ↓an_sz0, ↓an_sz1, ↓an_sz2, ↓an_sz3, ↓an_sz4, ↓an_ri, ↓an_rb0, ↓an_rb1, ↓an_b0, ↓an_b1, true_and, ↓ai_0s, ↓al_0s, ↓av_0s, ↓aq_0s, ↓ai_1s, ↓al_1s, ↓av_1s, ↓aq_1s, ↓ai_2s, ↓al_2s, ↓av_2s, ↓aq_2s, ↓ai_3s, ↓al_3s, ↓av_3s, ↓aq_3s, ↓ai_4s, ↓al_4s, ↓av_4s, ↓aq_4s, ↓ai_5s, ↓al_5s, ↓av_5s, ↓aq_5s, ↓ai_6s, ↓al_6s, ↓av_6s, ↓aq_6s, ↓ai_7s, ↓al_7s, ↓av_7s, ↓aq_7s, ↓an_l2, ↓bk_29, ↓an_t hc0, ↓an_rv hc0, ↓bt1 hc1, ↓bt2 hc1]
      rw [oW_some] at hs
      exact hs
    · replace hs := bW_f hs hc1
      by_cases hc2 : x1 = (nI 1)
      · replace hs := bW_t hs hc2
        simp only [↓hG, ↓hJf, ↓px_vc, ↓px_ex, ↓px_jp, ↓px_gi, ↓px_gl, ↓px_gr, ↓px_s1, ↓px_s2, ↓px_nl, ↓px_i1, ↓px_l1, ↓r1_s, ↓px_q1, ↓px_i2, ↓px_l2, ↓px_il, ↓px_d0, ↓px_d1, ↓px_d2, ↓px_pop, ↓px_sp, ↓px_rd, ↓px_rf, ↓pn_xf, ↓px_pt, ↓px_sw, ↓pn_SW, ↓px_ma, ↓reduceIte, Nat.reduceEqDiff, Nat.reduceAdd, Nat.reduceSub, ↓Option.toList_some, ↓Option.toList_none, ↓List.cons_append, ↓List.nil_append, ↓kI_s, ↓kJ_s, ↓kN_s, ↓kO_s, ↓kZ_s, ↓kE_s, ↓an_rfl, ↓bt1 n00, ↓bt2 n00, ↓bf1 n10, ↓bf2 n10, ↓an_sz0, ↓an_sz1, ↓an_sz2, ↓an_sz3, ↓an_sz4, ↓an_ri, ↓an_rb0, ↓an_rb1, ↓an_b0, ↓an_b1, true_and, ↓ai_0s, ↓al_0s, ↓av_0s, ↓aq_0s, ↓ai_1s, ↓al_1s, ↓av_1s, ↓aq_1s, ↓ai_2s, ↓al_2s, ↓av_2s, ↓aq_2s, ↓ai_3s, ↓al_3s, ↓av_3s, ↓aq_3s, ↓ai_4s, ↓al_4s, ↓av_4s, ↓aq_4s, ↓ai_5s, ↓al_5s, ↓av_5s, ↓aq_5s, ↓ai_6s, ↓al_6s, ↓av_6s, ↓aq_6s, ↓ai_7s, ↓al_7s, ↓av_7s, ↓aq_7s, ↓an_l2, ↓bk_29, ↓an_t hc0, ↓an_rv hc0, ↓bf1 hc1, ↓bf2 hc1, ↓bt1 hc2, ↓bt2 hc2]
        rw [oW_some] at hs
        exact hs
      · replace hs := bW_f hs hc2
        simp only [↓hG, ↓hJf, ↓px_vc, ↓px_ex, ↓px_jp, ↓px_gi, ↓px_gl, ↓px_gr, ↓px_s1, ↓px_s2, ↓px_nl, ↓px_i1, ↓px_l1, ↓r1_s, ↓px_q1, ↓px_i2, ↓px_l2, ↓px_il, ↓px_d0, ↓px_d1, ↓px_d2, ↓px_pop, ↓px_sp, ↓px_rd, ↓px_rf, ↓pn_xf, ↓px_pt, ↓px_sw, ↓pn_SW, ↓px_ma, ↓reduceIte, Nat.reduceEqDiff, Nat.reduceAdd, Nat.reduceSub, ↓Option.toList_some, ↓Option.toList_none, ↓List.cons_append, ↓List.nil_append, ↓kI_s, ↓kJ_s, ↓kN_s, ↓kO_s, ↓kZ_s, ↓kE_s, ↓an_rfl, ↓bt1 n00, ↓bt2 n00, ↓bf1 n10, ↓bf2 n10, ↓an_sz0, ↓an_sz1, ↓an_sz2, ↓an_sz3, ↓an_sz4, ↓an_ri, ↓an_rb0, ↓an_rb1, ↓an_b0, ↓an_b1, true_and, ↓ai_0s, ↓al_0s, ↓av_0s, ↓aq_0s, ↓ai_1s, ↓al_1s, ↓av_1s, ↓aq_1s, ↓ai_2s, ↓al_2s, ↓av_2s, ↓aq_2s, ↓ai_3s, ↓al_3s, ↓av_3s, ↓aq_3s, ↓ai_4s, ↓al_4s, ↓av_4s, ↓aq_4s, ↓ai_5s, ↓al_5s, ↓av_5s, ↓aq_5s, ↓ai_6s, ↓al_6s, ↓av_6s, ↓aq_6s, ↓ai_7s, ↓al_7s, ↓av_7s, ↓aq_7s, ↓an_l2, ↓bk_29, ↓an_t hc0, ↓an_rv hc0, ↓bf1 hc1, ↓bf2 hc1, ↓bf1 hc2, ↓bf2 hc2]
        rw [oW_some] at hs
        exact hs
def Sg_30 (g : px_M → Nat → Int64 → Option (Int32)) : px_S := fun av σ k => av_0 av (fun x0 av => al_1 av (fun x1 av => av = [] ∧ oW (g σ x0 x1) (fun r => k (some (.inl r)) σ)))
/-- NoThreeModel.isHouse(J)Z -/
noncomputable def f_30 (tab : px_T) (σ : px_M) (x0 : Nat) (x1 : Int64) : Option (Int32) := gd (px_obj (px_lay tab x0) 0) ((((σ).2.2 x0 1)).bind fun n1 => oA (px_lay tab n1) fun t2 l3 => gd (t2 = 0 ∨ t2 = 11) (gd (vp_in (nI 1) l3) ((f_2 tab σ x1 ((lN 0)) ((((px_av t2 σ n1 ((nI 1)).toNatClampNeg) - (nI 1))).toInt64)).bind fun r4 => gd (r4 = nI 0 ∨ r4 = nI 1) (some (r4)))))
set_option maxHeartbeats 4000000 in
set_option maxRecDepth 100000 in
theorem mf_30 {tab : px_T} (hn : px_nd tab) {h : Nat} (hh : 2 ≤ h) : px_Ok tab pn_i30 h (Sg_30 (f_30 tab)) := by
  refine px_mth hn (by decide +kernel) (fun av σ k hS => ?_) (fun C hT hC av σ k hS => ?_)
  · obtain ⟨x0, av0, e0, h0⟩ := av_0p hS
    obtain ⟨x1, av1, e1, h1⟩ := al_1p h0
    obtain ⟨ez, hs⟩ := h1
    subst ez
    subst e1
    subst e0
    exact Nat.le_of_ble_eq_true rfl
  · obtain ⟨x0, av0, e0, h0⟩ := av_0p hS
    obtain ⟨x1, av1, e1, h1⟩ := al_1p h0
    obtain ⟨ez, hs⟩ := h1
    subst ez
    subst e1
    subst e0
    subst hT
    show px_W C k 0 [some (.inr (.inr (some x0))), some (.inr (.inl x1)), none] [] σ
    refine px_runH (h - 1) ck_30 [(2, Sg_2 (f_2 (px_tb C)))] [] 80 3 (some .boolean) rfl rfl hC (px_sp1 (mf_2 hn (by omega)) px_nosp) (by omega) px_nocut (fun G Jf hG hJf => ?_)
    unfold f_30 at hs
    obtain ⟨hc0, hs⟩ := oW_gx hs
    obtain ⟨n1, hc1, hs⟩ := oW_bx hs
    obtain ⟨t2, l3, hc2, hs⟩ := oW_ax hs
    obtain ⟨hc3, hs⟩ := oW_gx hs
    obtain ⟨hc4, hs⟩ := oW_gx hs
    obtain ⟨r4, hc5, hs⟩ := oW_bx hs
    obtain ⟨hc6, hs⟩ := oW_gx hs
    simp only [↓hG, ↓hJf, ↓px_vc, ↓px_ex, ↓px_jp, ↓px_gi, ↓px_gl, ↓px_gr, ↓px_s1, ↓px_s2, ↓px_nl, ↓px_i1, ↓px_l1, ↓r1_s, ↓px_q1, ↓px_i2, ↓px_l2, ↓px_il, ↓px_d0, ↓px_d1, ↓px_d2, ↓px_pop, ↓px_sp, ↓px_rd, ↓px_rf, ↓pn_xf, ↓px_pt, ↓px_sw, ↓pn_SW, ↓px_ma, ↓reduceIte, Nat.reduceEqDiff, Nat.reduceAdd, Nat.reduceSub, ↓Option.toList_some, ↓Option.toList_none, ↓List.cons_append, ↓List.nil_append, ↓kI_s, ↓kJ_s, ↓kN_s, ↓kO_s, ↓kZ_s, ↓kE_s, ↓an_rfl, ↓bt1 n00, ↓bt2 n00, ↓bf1 n10, ↓bf2 n10, ↓an_sz0, ↓an_sz1, ↓an_sz2, ↓an_sz3, ↓an_sz4, ↓an_ri, ↓an_rb0, ↓an_rb1, ↓an_b0, ↓an_b1, true_and, ↓ai_0s, ↓al_0s, ↓av_0s, ↓aq_0s, ↓ai_1s, ↓al_1s, ↓av_1s, ↓aq_1s, ↓ai_2s, ↓al_2s, ↓av_2s, ↓aq_2s, ↓ai_3s, ↓al_3s, ↓av_3s, ↓aq_3s, ↓ai_4s, ↓al_4s, ↓av_4s, ↓aq_4s, ↓ai_5s, ↓al_5s, ↓av_5s, ↓aq_5s, ↓ai_6s, ↓al_6s, ↓av_6s, ↓aq_6s, ↓ai_7s, ↓al_7s, ↓av_7s, ↓aq_7s, ↓an_l3, ↓bk_30, ↓Sg_2, ↓an_t hc0, ↓an_rv hc0, ↓r1_e hc1, ↓av_0e hc1, ↓av_1e hc1, ↓av_2e hc1, ↓av_3e hc1, ↓ar_e hc2, ↓an_t hc3, ↓an_t hc4, ↓oW_e hc5, ↓an_t hc6, ↓an_rb hc6]
    rw [oW_some] at hs
    exact hs
def Sg_31 (g : px_M → Nat → Int32 → Option (Int32)) : px_S := fun av σ k => av_0 av (fun x0 av => ai_1 av (fun x1 av => av = [] ∧ oW (g σ x0 x1) (fun r => k (some (.inl r)) σ)))
/-- NoThreeModel.near(I)I -/
noncomputable def f_31 (tab : px_T) (σ : px_M) (x0 : Nat) (x1 : Int32) : Option (Int32) := gd (px_obj (px_lay tab x0) 0) ((((σ).2.2 x0 1)).bind fun n1 => oA (px_lay tab n1) fun t2 l3 => gd (t2 = 0 ∨ t2 = 11) (gd (vp_in ((nI 2) + x1) l3) (some ((px_av t2 σ n1 (((nI 2) + x1)).toNatClampNeg)))))
set_option maxHeartbeats 4000000 in
set_option maxRecDepth 100000 in
theorem mf_31 {tab : px_T} (hn : px_nd tab) {h : Nat} (hh : 1 ≤ h) : px_Ok tab pn_i31 h (Sg_31 (f_31 tab)) := by
  refine px_mth hn (by decide +kernel) (fun av σ k hS => ?_) (fun C hT hC av σ k hS => ?_)
  · obtain ⟨x0, av0, e0, h0⟩ := av_0p hS
    obtain ⟨x1, av1, e1, h1⟩ := ai_1p h0
    obtain ⟨ez, hs⟩ := h1
    subst ez
    subst e1
    subst e0
    exact Nat.le_of_ble_eq_true rfl
  · obtain ⟨x0, av0, e0, h0⟩ := av_0p hS
    obtain ⟨x1, av1, e1, h1⟩ := ai_1p h0
    obtain ⟨ez, hs⟩ := h1
    subst ez
    subst e1
    subst e0
    subst hT
    show px_W C k 0 [some (.inr (.inr (some x0))), some (.inl x1)] [] σ
    refine px_runH (h - 1) ck_31 [] [] 80 2 (some .int) rfl rfl hC px_nosp (by omega) px_nocut (fun G Jf hG hJf => ?_)
    unfold f_31 at hs
    obtain ⟨hc0, hs⟩ := oW_gx hs
    obtain ⟨n1, hc1, hs⟩ := oW_bx hs
    obtain ⟨t2, l3, hc2, hs⟩ := oW_ax hs
    obtain ⟨hc3, hs⟩ := oW_gx hs
    obtain ⟨hc4, hs⟩ := oW_gx hs
    simp only [↓hG, ↓hJf, ↓px_vc, ↓px_ex, ↓px_jp, ↓px_gi, ↓px_gl, ↓px_gr, ↓px_s1, ↓px_s2, ↓px_nl, ↓px_i1, ↓px_l1, ↓r1_s, ↓px_q1, ↓px_i2, ↓px_l2, ↓px_il, ↓px_d0, ↓px_d1, ↓px_d2, ↓px_pop, ↓px_sp, ↓px_rd, ↓px_rf, ↓pn_xf, ↓px_pt, ↓px_sw, ↓pn_SW, ↓px_ma, ↓reduceIte, Nat.reduceEqDiff, Nat.reduceAdd, Nat.reduceSub, ↓Option.toList_some, ↓Option.toList_none, ↓List.cons_append, ↓List.nil_append, ↓kI_s, ↓kJ_s, ↓kN_s, ↓kO_s, ↓kZ_s, ↓kE_s, ↓an_rfl, ↓bt1 n00, ↓bt2 n00, ↓bf1 n10, ↓bf2 n10, ↓an_sz0, ↓an_sz1, ↓an_sz2, ↓an_sz3, ↓an_sz4, ↓an_ri, ↓an_rb0, ↓an_rb1, ↓an_b0, ↓an_b1, true_and, ↓ai_0s, ↓al_0s, ↓av_0s, ↓aq_0s, ↓ai_1s, ↓al_1s, ↓av_1s, ↓aq_1s, ↓ai_2s, ↓al_2s, ↓av_2s, ↓aq_2s, ↓ai_3s, ↓al_3s, ↓av_3s, ↓aq_3s, ↓ai_4s, ↓al_4s, ↓av_4s, ↓aq_4s, ↓ai_5s, ↓al_5s, ↓av_5s, ↓aq_5s, ↓ai_6s, ↓al_6s, ↓av_6s, ↓aq_6s, ↓ai_7s, ↓al_7s, ↓av_7s, ↓aq_7s, ↓an_l2, ↓bk_31, ↓an_t hc0, ↓an_rv hc0, ↓r1_e hc1, ↓av_0e hc1, ↓av_1e hc1, ↓av_2e hc1, ↓av_3e hc1, ↓ar_e hc2, ↓an_t hc3, ↓an_t hc4]
    rw [oW_some] at hs
    exact hs
def Sg_32 (g : px_M → Int32 → Option (Int32)) : px_S := fun av σ k => ai_0 av (fun x0 av => av = [] ∧ oW (g σ x0) (fun r => k (some (.inl r)) σ))
/-- NoThreeModel.bitsOf(I)I -/
noncomputable def f_32_18 (tab : px_T) (σ : px_M) (x0 : Int32) (x1 : Int32) (x2 : Int32) : Option ((Int32 × Int32) ⊕ (Int32)) := some (.inl ((x1, (x2 + (nI 1)))))
noncomputable def F_32_4 (tab : px_T) (σ : px_M) (x0 : Int32) (x1 : Int32) (x2 : Int32) : Option ((Int32 × Int32) ⊕ (Int32)) := if (nI 11) ≤ x2 then (some (.inr (x1))) else (f_32_18 tab σ x0 ((x1 + ((x0 >>> (x2 &&& 31)) &&& (nI 1)))) x2)
noncomputable def f_32_4 (tab : px_T) (σ : px_M) (x0 : Int32) (x1 : Int32) (x2 : Int32) : Option (Int32) := lpO (fun s : Int32 × Int32 => F_32_4 tab σ x0 s.1 s.2) (x1, x2)
theorem f_32_4_eq (tab : px_T) (σ : px_M) (x0 : Int32) (x1 : Int32) (x2 : Int32) : f_32_4 tab σ x0 x1 x2 = (F_32_4 tab σ x0 x1 x2).bind (Sum.elim (fun s => f_32_4 tab σ x0 s.1 s.2) some) := lpO_eq _ _
noncomputable def f_32 (tab : px_T) (σ : px_M) (x0 : Int32) : Option (Int32) := f_32_4 tab σ x0 ((nI 0)) ((nI 0))
def kp_32_18 (Q : Int32 → Int32 → Int32 → px_M → Prop) : px_P := fun ls st τ => st = [] ∧ kI ls (fun x0 ls => kI ls (fun x1 ls => kI ls (fun x2 ls => kE ls (Q x0 x1 x2 τ))))
theorem kq_32_18 {C : px_C} {k : Option px_V → px_M → Prop} {Q : Int32 → Int32 → Int32 → px_M → Prop} (H : ∀ (x0 : Int32) (x1 : Int32) (x2 : Int32) (τ : px_M), Q x0 x1 x2 τ → px_W C k 18 [some (.inl x0), some (.inl x1), some (.inl x2)] [] τ) : ∀ ls st τ, kp_32_18 Q ls st τ → px_W C k 18 ls st τ := by
  intro ls st τ hz
  obtain ⟨ez, h0⟩ := hz
  obtain ⟨x0, l0, e0, h1⟩ := kI_sp h0
  obtain ⟨x1, l1, e1, h2⟩ := kI_sp h1
  obtain ⟨x2, l2, e2, h3⟩ := kI_sp h2
  obtain ⟨ey, hy⟩ := kE_sp h3
  subst ez
  subst ey
  subst e2
  subst e1
  subst e0
  exact H x0 x1 x2 τ hy
def kp_32_4 (Q : Int32 → Int32 → Int32 → px_M → Prop) : px_P := fun ls st τ => st = [] ∧ kI ls (fun x0 ls => kI ls (fun x1 ls => kI ls (fun x2 ls => kE ls (Q x0 x1 x2 τ))))
theorem kq_32_4 {C : px_C} {k : Option px_V → px_M → Prop} {Q : Int32 → Int32 → Int32 → px_M → Prop} (H : ∀ (x0 : Int32) (x1 : Int32) (x2 : Int32) (τ : px_M), Q x0 x1 x2 τ → px_W C k 4 [some (.inl x0), some (.inl x1), some (.inl x2)] [] τ) : ∀ ls st τ, kp_32_4 Q ls st τ → px_W C k 4 ls st τ := by
  intro ls st τ hz
  obtain ⟨ez, h0⟩ := hz
  obtain ⟨x0, l0, e0, h1⟩ := kI_sp h0
  obtain ⟨x1, l1, e1, h2⟩ := kI_sp h1
  obtain ⟨x2, l2, e2, h3⟩ := kI_sp h2
  obtain ⟨ey, hy⟩ := kE_sp h3
  subst ez
  subst ey
  subst e2
  subst e1
  subst e0
  exact H x0 x1 x2 τ hy
set_option maxHeartbeats 4000000 in
set_option maxRecDepth 100000 in
theorem rl_32_18 {C : px_C} (hn : px_nd (px_tb C)) {h : Nat} (hh : 1 ≤ h) (hC : px_ok C pn_i32 h) {k : Option px_V → px_M → Prop} {x0 : Int32} {x1 : Int32} {x2 : Int32} {σ : px_M} (hs : oW (f_32_18 (px_tb C) σ x0 x1 x2) (Sum.elim (fun s : Int32 × Int32 => px_W C k 4 [some (.inl x0), some (.inl s.1), some (.inl s.2)] [] σ) (fun r => k (some (.inl r)) σ))) : px_W C k 18 [some (.inl x0), some (.inl x1), some (.inl x2)] [] σ := by
  refine px_runH (h - 1) ck_32 [] [(4, kp_32_4 (fun y0 y1 y2 τ => y0 = x0 ∧ τ = σ ∧ (fun s : Int32 × Int32 => px_W C k 4 [some (.inl x0), some (.inl s.1), some (.inl s.2)] [] σ) (y1, y2)))] 80 3 (some .int) rfl rfl hC px_nosp (by omega) (px_cut1 (kq_32_4 (fun y0 y1 y2 τ hq => by obtain ⟨rfl, rfl, hq⟩ := hq; exact hq)) px_nocut) (fun G Jf hG hJf => ?_)
  unfold f_32_18 at hs
  simp only [↓hG, ↓hJf, ↓px_vc, ↓px_ex, ↓px_jp, ↓px_gi, ↓px_gl, ↓px_gr, ↓px_s1, ↓px_s2, ↓px_nl, ↓px_i1, ↓px_l1, ↓r1_s, ↓px_q1, ↓px_i2, ↓px_l2, ↓px_il, ↓px_d0, ↓px_d1, ↓px_d2, ↓px_pop, ↓px_sp, ↓px_rd, ↓px_rf, ↓pn_xf, ↓px_pt, ↓px_sw, ↓pn_SW, ↓px_ma, ↓reduceIte, Nat.reduceEqDiff, Nat.reduceAdd, Nat.reduceSub, ↓Option.toList_some, ↓Option.toList_none, ↓List.cons_append, ↓List.nil_append, ↓kI_s, ↓kJ_s, ↓kN_s, ↓kO_s, ↓kZ_s, ↓kE_s, ↓an_rfl, ↓bt1 n00, ↓bt2 n00, ↓bf1 n10, ↓bf2 n10, ↓an_sz0, ↓an_sz1, ↓an_sz2, ↓an_sz3, ↓an_sz4, ↓an_ri, ↓an_rb0, ↓an_rb1, ↓an_b0, ↓an_b1, true_and, ↓ai_0s, ↓al_0s, ↓av_0s, ↓aq_0s, ↓ai_1s, ↓al_1s, ↓av_1s, ↓aq_1s, ↓ai_2s, ↓al_2s, ↓av_2s, ↓aq_2s, ↓ai_3s, ↓al_3s, ↓av_3s, ↓aq_3s, ↓ai_4s, ↓al_4s, ↓av_4s, ↓aq_4s, ↓ai_5s, ↓al_5s, ↓av_5s, ↓aq_5s, ↓ai_6s, ↓al_6s, ↓av_6s, ↓aq_6s, ↓ai_7s, ↓al_7s, ↓av_7s, ↓aq_7s, ↓an_l3, ↓bk_32, ↓kp_32_4]
  rw [oW_some] at hs
  exact hs
set_option maxHeartbeats 4000000 in
set_option maxRecDepth 100000 in
theorem rl_32_4 {C : px_C} (hn : px_nd (px_tb C)) {h : Nat} (hh : 1 ≤ h) (hC : px_ok C pn_i32 h) {k : Option px_V → px_M → Prop} {x0 : Int32} {σ : px_M} : ∀ s : Int32 × Int32, oW (f_32_4 (px_tb C) σ x0 s.1 s.2) (fun r => k (some (.inl r)) σ) → (fun s : Int32 × Int32 => px_W C k 4 [some (.inl x0), some (.inl s.1), some (.inl s.2)] [] σ) s := by
  intro s h0
  refine lpO_sound (P := (fun s : Int32 × Int32 => px_W C k 4 [some (.inl x0), some (.inl s.1), some (.inl s.2)] [] σ)) (fun s hs => ?_) h0
  obtain ⟨x1, x2⟩ := s
  refine px_runH (h - 1) ck_32 [] [(18, kp_32_18 (fun y0 y1 y2 τ => y0 = x0 ∧ τ = σ ∧ oW (f_32_18 (px_tb C) τ y0 y1 y2) (Sum.elim (fun s : Int32 × Int32 => px_W C k 4 [some (.inl x0), some (.inl s.1), some (.inl s.2)] [] σ) (fun r => k (some (.inl r)) σ))))] 80 3 (some .int) rfl rfl hC px_nosp (by omega) (px_cut1 (kq_32_18 (fun y0 y1 y2 τ hq => by obtain ⟨rfl, rfl, hq⟩ := hq; exact rl_32_18 hn (by omega) hC  hq)) px_nocut) (fun G Jf hG hJf => ?_)
  replace hs : oW (F_32_4 (px_tb C) σ x0 x1 x2) _ := hs
  unfold F_32_4 at hs
  by_cases hc0 : (nI 11) ≤ x2
  · replace hs := oW_t hs hc0
    simp only [↓hG, ↓hJf, ↓px_vc, ↓px_ex, ↓px_jp, ↓px_gi, ↓px_gl, ↓px_gr, ↓px_s1, ↓px_s2, ↓px_nl, ↓px_i1, ↓px_l1, ↓r1_s, ↓px_q1, ↓px_i2, ↓px_l2, ↓px_il, ↓px_d0, ↓px_d1, ↓px_d2, ↓px_pop, ↓px_sp, ↓px_rd, ↓px_rf, ↓pn_xf, ↓px_pt, ↓px_sw, ↓pn_SW, ↓px_ma, ↓reduceIte, Nat.reduceEqDiff, Nat.reduceAdd, Nat.reduceSub, ↓Option.toList_some, ↓Option.toList_none, ↓List.cons_append, ↓List.nil_append, ↓kI_s, ↓kJ_s, ↓kN_s, ↓kO_s, ↓kZ_s, ↓kE_s, ↓an_rfl, ↓bt1 n00, ↓bt2 n00, ↓bf1 n10, ↓bf2 n10, ↓an_sz0, ↓an_sz1, ↓an_sz2, ↓an_sz3, ↓an_sz4, ↓an_ri, ↓an_rb0, ↓an_rb1, ↓an_b0, ↓an_b1, true_and, ↓ai_0s, ↓al_0s, ↓av_0s, ↓aq_0s, ↓ai_1s, ↓al_1s, ↓av_1s, ↓aq_1s, ↓ai_2s, ↓al_2s, ↓av_2s, ↓aq_2s, ↓ai_3s, ↓al_3s, ↓av_3s, ↓aq_3s, ↓ai_4s, ↓al_4s, ↓av_4s, ↓aq_4s, ↓ai_5s, ↓al_5s, ↓av_5s, ↓aq_5s, ↓ai_6s, ↓al_6s, ↓av_6s, ↓aq_6s, ↓ai_7s, ↓al_7s, ↓av_7s, ↓aq_7s, ↓an_l3, ↓bk_32, ↓kp_32_18, ↓bt1 hc0, ↓bt2 hc0]
    rw [oW_some] at hs
    exact hs
  · replace hs := oW_f hs hc0
    simp only [↓hG, ↓hJf, ↓px_vc, ↓px_ex, ↓px_jp, ↓px_gi, ↓px_gl, ↓px_gr, ↓px_s1, ↓px_s2, ↓px_nl, ↓px_i1, ↓px_l1, ↓r1_s, ↓px_q1, ↓px_i2, ↓px_l2, ↓px_il, ↓px_d0, ↓px_d1, ↓px_d2, ↓px_pop, ↓px_sp, ↓px_rd, ↓px_rf, ↓pn_xf, ↓px_pt, ↓px_sw, ↓pn_SW, ↓px_ma, ↓reduceIte, Nat.reduceEqDiff, Nat.reduceAdd, Nat.reduceSub, ↓Option.toList_some, ↓Option.toList_none, ↓List.cons_append, ↓List.nil_append, ↓kI_s, ↓kJ_s, ↓kN_s, ↓kO_s, ↓kZ_s, ↓kE_s, ↓an_rfl, ↓bt1 n00, ↓bt2 n00, ↓bf1 n10, ↓bf2 n10, ↓an_sz0, ↓an_sz1, ↓an_sz2, ↓an_sz3, ↓an_sz4, ↓an_ri, ↓an_rb0, ↓an_rb1, ↓an_b0, ↓an_b1, true_and, ↓ai_0s, ↓al_0s, ↓av_0s, ↓aq_0s, ↓ai_1s, ↓al_1s, ↓av_1s, ↓aq_1s, ↓ai_2s, ↓al_2s, ↓av_2s, ↓aq_2s, ↓ai_3s, ↓al_3s, ↓av_3s, ↓aq_3s, ↓ai_4s, ↓al_4s, ↓av_4s, ↓aq_4s, ↓ai_5s, ↓al_5s, ↓av_5s, ↓aq_5s, ↓ai_6s, ↓al_6s, ↓av_6s, ↓aq_6s, ↓ai_7s, ↓al_7s, ↓av_7s, ↓aq_7s, ↓an_l3, ↓bk_32, ↓kp_32_18, ↓bf1 hc0, ↓bf2 hc0]
    exact hs
set_option maxHeartbeats 4000000 in
set_option maxRecDepth 100000 in
theorem mf_32 {tab : px_T} (hn : px_nd tab) {h : Nat} (hh : 1 ≤ h) : px_Ok tab pn_i32 h (Sg_32 (f_32 tab)) := by
  refine px_mth hn (by decide +kernel) (fun av σ k hS => ?_) (fun C hT hC av σ k hS => ?_)
  · obtain ⟨x0, av0, e0, h0⟩ := ai_0p hS
    obtain ⟨ez, hs⟩ := h0
    subst ez
    subst e0
    exact Nat.le_of_ble_eq_true rfl
  · obtain ⟨x0, av0, e0, h0⟩ := ai_0p hS
    obtain ⟨ez, hs⟩ := h0
    subst ez
    subst e0
    subst hT
    show px_W C k 0 [some (.inl x0), none, none] [] σ
    refine px_runH (h - 1) ck_32 [] [(4, kp_32_4 (fun y0 y1 y2 τ => τ = σ ∧ oW (f_32_4 (px_tb C) τ y0 y1 y2) (fun r => k (some (.inl r)) σ)))] 80 3 (some .int) rfl rfl hC px_nosp (by omega) (px_cut1 (kq_32_4 (fun y0 y1 y2 τ hq => by obtain ⟨rfl, hq⟩ := hq; exact rl_32_4 hn (by omega) hC (y1, y2) hq)) px_nocut) (fun G Jf hG hJf => ?_)
    unfold f_32 at hs
    simp only [↓hG, ↓hJf, ↓px_vc, ↓px_ex, ↓px_jp, ↓px_gi, ↓px_gl, ↓px_gr, ↓px_s1, ↓px_s2, ↓px_nl, ↓px_i1, ↓px_l1, ↓r1_s, ↓px_q1, ↓px_i2, ↓px_l2, ↓px_il, ↓px_d0, ↓px_d1, ↓px_d2, ↓px_pop, ↓px_sp, ↓px_rd, ↓px_rf, ↓pn_xf, ↓px_pt, ↓px_sw, ↓pn_SW, ↓px_ma, ↓reduceIte, Nat.reduceEqDiff, Nat.reduceAdd, Nat.reduceSub, ↓Option.toList_some, ↓Option.toList_none, ↓List.cons_append, ↓List.nil_append, ↓kI_s, ↓kJ_s, ↓kN_s, ↓kO_s, ↓kZ_s, ↓kE_s, ↓an_rfl, ↓bt1 n00, ↓bt2 n00, ↓bf1 n10, ↓bf2 n10, ↓an_sz0, ↓an_sz1, ↓an_sz2, ↓an_sz3, ↓an_sz4, ↓an_ri, ↓an_rb0, ↓an_rb1, ↓an_b0, ↓an_b1, true_and, ↓ai_0s, ↓al_0s, ↓av_0s, ↓aq_0s, ↓ai_1s, ↓al_1s, ↓av_1s, ↓aq_1s, ↓ai_2s, ↓al_2s, ↓av_2s, ↓aq_2s, ↓ai_3s, ↓al_3s, ↓av_3s, ↓aq_3s, ↓ai_4s, ↓al_4s, ↓av_4s, ↓aq_4s, ↓ai_5s, ↓al_5s, ↓av_5s, ↓aq_5s, ↓ai_6s, ↓al_6s, ↓av_6s, ↓aq_6s, ↓ai_7s, ↓al_7s, ↓av_7s, ↓aq_7s, ↓an_l3, ↓bk_32, ↓kp_32_4]
    exact hs
