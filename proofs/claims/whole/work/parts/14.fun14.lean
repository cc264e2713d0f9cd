/-! shallow functions, printed by wip/whole/decomp.py -/
def Sg_72 (g : px_M → Nat → Int32 → Int32 → Option (Int32 × px_M)) : px_S := fun av σ k => av_0 av (fun x0 av => ai_1 av (fun x1 av => ai_2 av (fun x2 av => av = [] ∧ oW (g σ x0 x1 x2) (fun q => k (some (.inl q.1)) q.2))))
/-- NoThreeModel.actsOf(IZ)I -/
noncomputable def f_72_193 (tab : px_T) (σ : px_M) (x0 : Nat) (x1 : Int32) (x2 : Int32) (x3 : Int32) : Option ((Int32 × px_M) ⊕ (Int32 × px_M)) := some (.inl (((x3 + (nI 1)), σ)))
noncomputable def f_72_162 (tab : px_T) (σ : px_M) (x0 : Nat) (x1 : Int32) (x2 : Int32) (x3 : Int32) (x6 : Int64) (x8 : Int64) (x11 : Int32) : Option ((Int32 × px_M) ⊕ (Int32 × px_M)) := if x11 = nI 0 then (gd (px_obj (px_lay tab x0) 0) ((((σ).2.2 x0 1)).bind fun n1 => (f_15 tab σ n1 ((x6).toInt32) ((x8).toInt32)).bind fun q2 => f_72_193 tab q2 x0 x1 x2 x3)) else (gd (px_obj (px_lay tab x0) 0) ((f_59 tab σ x0 ((x6).toInt32) ((x8).toInt32)).bind fun q3 => f_72_193 tab q3 x0 x1 x2 x3))
noncomputable def f_72_145 (tab : px_T) (σ : px_M) (x0 : Nat) (x1 : Int32) (x2 : Int32) (x3 : Int32) (x6 : Int64) (x8 : Int64) (x11 : Int32) : Option ((Int32 × px_M) ⊕ (Int32 × px_M)) := gd (px_obj (px_lay tab x0) 0) (if ((σ).1 x0 21) = nI 0 then (if x2 = nI 0 then (f_72_162 tab σ x0 x1 x2 x3 x6 x8 x11) else ((f_58 tab σ x0).bind fun q1 => f_72_162 tab q1 x0 x1 x2 x3 x6 x8 x11)) else (some (.inr ((x3, σ)))))
noncomputable def f_72_115 (tab : px_T) (σ : px_M) (x0 : Nat) (x1 : Int32) (x2 : Int32) (x3 : Int32) (x6 : Int64) (x8 : Int64) (x10 : Int32) (x11 : Int32) : Option ((Int32 × px_M) ⊕ (Int32 × px_M)) := bn (x10 = nI 0) (if x11 = nI 0 then (gd (px_obj (px_lay tab x0) 0) ((f_57 tab σ x0 x6 x8).bind fun q1 => f_72_145 tab ((px_wi q1.2 x0 21 q1.1)) x0 x1 x2 x3 x6 x8 x11)) else (gd (px_obj (px_lay tab x0) 0) (f_72_145 tab ((px_wi σ x0 21 (nI 0))) x0 x1 x2 x3 x6 x8 x11))) (gd (px_obj (px_lay tab x0) 0) (f_72_145 tab ((px_wi σ x0 21 (nI 1))) x0 x1 x2 x3 x6 x8 x11))
noncomputable def f_72_112 (tab : px_T) (σ : px_M) (x0 : Nat) (x1 : Int32) (x2 : Int32) (x3 : Int32) (x6 : Int64) (x8 : Int64) (x10 : Int32) : Option ((Int32 × px_M) ⊕ (Int32 × px_M)) := f_72_115 tab σ x0 x1 x2 x3 x6 x8 x10 ((nI 0))
noncomputable def f_72_83 (tab : px_T) (σ : px_M) (x0 : Nat) (x1 : Int32) (x2 : Int32) (x3 : Int32) (x6 : Int64) (x8 : Int64) : Option ((Int32 × px_M) ⊕ (Int32 × px_M)) := f_72_112 tab σ x0 x1 x2 x3 x6 x8 ((nI 0))
noncomputable def f_72_79 (tab : px_T) (σ : px_M) (x0 : Nat) (x1 : Int32) (x2 : Int32) (x3 : Int32) (x6 : Int64) (x8 : Int64) : Option ((Int32 × px_M) ⊕ (Int32 × px_M)) := gd (px_obj (px_lay tab x0) 0) ((f_31 tab σ x0 ((x6).toInt32)).bind fun r1 => (f_14 tab σ ((r1).toInt64) ((x8).toInt32)).bind fun r2 => if r2 = nI 0 then (f_72_112 tab σ x0 x1 x2 x3 x6 x8 ((nI 1))) else (f_72_115 tab σ x0 x1 x2 x3 x6 x8 ((nI 1)) ((nI 1))))
noncomputable def f_72_46 (tab : px_T) (σ : px_M) (x0 : Nat) (x1 : Int32) (x2 : Int32) (x3 : Int32) (x4 : Int64) (x6 : Int64) (x8 : Int64) : Option ((Int32 × px_M) ⊕ (Int32 × px_M)) := if x4 < (lN 0) then (f_72_83 tab σ x0 x1 x2 x3 x6 x8) else (gd (px_obj (px_lay tab x0) 0) ((f_30 tab σ x0 x6).bind fun r1 => if r1 = nI 0 then (f_72_83 tab σ x0 x1 x2 x3 x6 x8) else ((f_30 tab σ x0 x8).bind fun r2 => if r2 = nI 0 then (f_72_83 tab σ x0 x1 x2 x3 x6 x8) else (if x6 = x8 then (f_72_83 tab σ x0 x1 x2 x3 x6 x8) else (f_72_79 tab σ x0 x1 x2 x3 x6 x8)))))
noncomputable def f_72_38 (tab : px_T) (σ : px_M) (x0 : Nat) (x1 : Int32) (x2 : Int32) (x3 : Int32) (x4 : Int64) (x6 : Int64) : Option ((Int32 × px_M) ⊕ (Int32 × px_M)) := gd (¬ (lN 100) = lN 0) (f_72_46 tab σ x0 x1 x2 x3 x4 x6 ((x4 - x4 / (lN 100) * (lN 100))))
noncomputable def F_72_7 (tab : px_T) (x0 : Nat) (x1 : Int32) (x2 : Int32) (x3 : Int32) (σ : px_M) : Option ((Int32 × px_M) ⊕ (Int32 × px_M)) := gd (px_obj (px_lay tab x0) 0) ((((σ).2.2 x0 36)).bind fun n1 => oA (px_lay tab n1) fun t2 l3 => gd (t2 = 0 ∨ t2 = 11) (gd (vp_in x1 l3) (if (px_av t2 σ n1 (x1).toNatClampNeg) ≤ x3 then (some (.inr (((px_av t2 σ n1 (x1).toNatClampNeg), σ)))) else ((((σ).2.2 x0 37)).bind fun n4 => oA (px_lay tab n4) fun t5 l6 => gd (t5 = 3) (gd (vp_in (((nI 40) * x1) + x3) l6) (gd (¬ (lN 100) = lN 0) (f_72_38 tab σ x0 x1 x2 x3 (((σ).2.1 n4 ((((nI 40) * x1) + x3)).toNatClampNeg)) ((((σ).2.1 n4 ((((nI 40) * x1) + x3)).toNatClampNeg) / (lN 100))))))))))
noncomputable def f_72_7 (tab : px_T) (x0 : Nat) (x1 : Int32) (x2 : Int32) (x3 : Int32) (σ : px_M) : Option (Int32 × px_M) := lpO (fun s : Int32 × px_M => F_72_7 tab x0 x1 x2 s.1 s.2) (x3, σ)
theorem f_72_7_eq (tab : px_T) (x0 : Nat) (x1 : Int32) (x2 : Int32) (x3 : Int32) (σ : px_M) : f_72_7 tab x0 x1 x2 x3 σ = (F_72_7 tab x0 x1 x2 x3 σ).bind (Sum.elim (fun s => f_72_7 tab x0 x1 x2 s.1 s.2) some) := lpO_eq _ _
noncomputable def f_72 (tab : px_T) (σ : px_M) (x0 : Nat) (x1 : Int32) (x2 : Int32) : Option (Int32 × px_M) := gd (px_obj (px_lay tab x0) 0) (f_72_7 tab x0 x1 x2 ((nI 0)) ((px_wi σ x0 21 (nI 0))))
def kp_72_193 (Q : Nat → Int32 → Int32 → Int32 → px_M → Prop) : px_P := fun ls st τ => st = [] ∧ kN ls (fun x0 ls => kI ls (fun x1 ls => kI ls (fun x2 ls => kI ls (fun x3 ls => kZ ls (fun ls => kZ ls (fun ls => kZ ls (fun ls => kZ ls (fun ls => kZ ls (fun ls => kZ ls (fun ls => kZ ls (fun ls => kZ ls (fun ls => kE ls (Q x0 x1 x2 x3 τ)))))))))))))
theorem kq_72_193 {C : px_C} {k : Option px_V → px_M → Prop} {Q : Nat → Int32 → Int32 → Int32 → px_M → Prop} (H : ∀ (x0 : Nat) (x1 : Int32) (x2 : Int32) (x3 : Int32) (τ : px_M), Q x0 x1 x2 x3 τ → ∀ (z4 : Option px_V) (z5 : Option px_V) (z6 : Option px_V) (z7 : Option px_V) (z8 : Option px_V) (z9 : Option px_V) (z10 : Option px_V) (z11 : Option px_V), px_W C k 193 [some (.inr (.inr (some x0))), some (.inl x1), some (.inl x2), some (.inl x3), z4, z5, z6, z7, z8, z9, z10, z11] [] τ) : ∀ ls st τ, kp_72_193 Q ls st τ → px_W C k 193 ls st τ := by
  intro ls st τ hz
  obtain ⟨ez, h0⟩ := hz
  obtain ⟨x0, l0, e0, h1⟩ := kN_sp h0
  obtain ⟨x1, l1, e1, h2⟩ := kI_sp h1
  obtain ⟨x2, l2, e2, h3⟩ := kI_sp h2
  obtain ⟨x3, l3, e3, h4⟩ := kI_sp h3
  obtain ⟨z4, l4, e4, h5⟩ := kZ_sp h4
  obtain ⟨z5, l5, e5, h6⟩ := kZ_sp h5
  obtain ⟨z6, l6, e6, h7⟩ := kZ_sp h6
  obtain ⟨z7, l7, e7, h8⟩ := kZ_sp h7
  obtain ⟨z8, l8, e8, h9⟩ := kZ_sp h8
  obtain ⟨z9, l9, e9, h10⟩ := kZ_sp h9
  obtain ⟨z10, l10, e10, h11⟩ := kZ_sp h10
  obtain ⟨z11, l11, e11, h12⟩ := kZ_sp h11
  obtain ⟨ey, hy⟩ := kE_sp h12
  subst ez
  subst ey
  subst e11
  subst e10
  subst e9
  subst e8
  subst e7
  subst e6
  subst e5
  subst e4
  subst e3
  subst e2
  subst e1
  subst e0
  exact H x0 x1 x2 x3 τ hy z4 z5 z6 z7 z8 z9 z10 z11
def kp_72_162 (Q : Nat → Int32 → Int32 → Int32 → Int64 → Int64 → Int32 → px_M → Prop) : px_P := fun ls st τ => st = [] ∧ kN ls (fun x0 ls => kI ls (fun x1 ls => kI ls (fun x2 ls => kI ls (fun x3 ls => kZ ls (fun ls => kZ ls (fun ls => kJ ls (fun x6 ls => kJ ls (fun x8 ls => kZ ls (fun ls => kI ls (fun x11 ls => kE ls (Q x0 x1 x2 x3 x6 x8 x11 τ)))))))))))
theorem kq_72_162 {C : px_C} {k : Option px_V → px_M → Prop} {Q : Nat → Int32 → Int32 → Int32 → Int64 → Int64 → Int32 → px_M → Prop} (H : ∀ (x0 : Nat) (x1 : Int32) (x2 : Int32) (x3 : Int32) (x6 : Int64) (x8 : Int64) (x11 : Int32) (τ : px_M), Q x0 x1 x2 x3 x6 x8 x11 τ → ∀ (z4 : Option px_V) (z5 : Option px_V) (z10 : Option px_V), px_W C k 162 [some (.inr (.inr (some x0))), some (.inl x1), some (.inl x2), some (.inl x3), z4, z5, some (.inr (.inl x6)), none, some (.inr (.inl x8)), none, z10, some (.inl x11)] [] τ) : ∀ ls st τ, kp_72_162 Q ls st τ → px_W C k 162 ls st τ := by
  intro ls st τ hz
  obtain ⟨ez, h0⟩ := hz
  obtain ⟨x0, l0, e0, h1⟩ := kN_sp h0
  obtain ⟨x1, l1, e1, h2⟩ := kI_sp h1
  obtain ⟨x2, l2, e2, h3⟩ := kI_sp h2
  obtain ⟨x3, l3, e3, h4⟩ := kI_sp h3
  obtain ⟨z4, l4, e4, h5⟩ := kZ_sp h4
  obtain ⟨z5, l5, e5, h6⟩ := kZ_sp h5
  obtain ⟨x6, l6, e6, h7⟩ := kJ_sp h6
  obtain ⟨x8, l7, e7, h8⟩ := kJ_sp h7
  obtain ⟨z10, l8, e8, h9⟩ := kZ_sp h8
  obtain ⟨x11, l9, e9, h10⟩ := kI_sp h9
  obtain ⟨ey, hy⟩ := kE_sp h10
  subst ez
  subst ey
  subst e9
  subst e8
  subst e7
  subst e6
  subst e5
  subst e4
  subst e3
  subst e2
  subst e1
  subst e0
  exact H x0 x1 x2 x3 x6 x8 x11 τ hy z4 z5 z10
def kp_72_145 (Q : Nat → Int32 → Int32 → Int32 → Int64 → Int64 → Int32 → px_M → Prop) : px_P := fun ls st τ => st = [] ∧ kN ls (fun x0 ls => kI ls (fun x1 ls => kI ls (fun x2 ls => kI ls (fun x3 ls => kZ ls (fun ls => kZ ls (fun ls => kJ ls (fun x6 ls => kJ ls (fun x8 ls => kZ ls (fun ls => kI ls (fun x11 ls => kE ls (Q x0 x1 x2 x3 x6 x8 x11 τ)))))))))))
theorem kq_72_145 {C : px_C} {k : Option px_V → px_M → Prop} {Q : Nat → Int32 → Int32 → Int32 → Int64 → Int64 → Int32 → px_M → Prop} (H : ∀ (x0 : Nat) (x1 : Int32) (x2 : Int32) (x3 : Int32) (x6 : Int64) (x8 : Int64) (x11 : Int32) (τ : px_M), Q x0 x1 x2 x3 x6 x8 x11 τ → ∀ (z4 : Option px_V) (z5 : Option px_V) (z10 : Option px_V), px_W C k 145 [some (.inr (.inr (some x0))), some (.inl x1), some (.inl x2), some (.inl x3), z4, z5, some (.inr (.inl x6)), none, some (.inr (.inl x8)), none, z10, some (.inl x11)] [] τ) : ∀ ls st τ, kp_72_145 Q ls st τ → px_W C k 145 ls st τ := by
  intro ls st τ hz
  obtain ⟨ez, h0⟩ := hz
  obtain ⟨x0, l0, e0, h1⟩ := kN_sp h0
  obtain ⟨x1, l1, e1, h2⟩ := kI_sp h1
  obtain ⟨x2, l2, e2, h3⟩ := kI_sp h2
  obtain ⟨x3, l3, e3, h4⟩ := kI_sp h3
  obtain ⟨z4, l4, e4, h5⟩ := kZ_sp h4
  obtain ⟨z5, l5, e5, h6⟩ := kZ_sp h5
  obtain ⟨x6, l6, e6, h7⟩ := kJ_sp h6
  obtain ⟨x8, l7, e7, h8⟩ := kJ_sp h7
  obtain ⟨z10, l8, e8, h9⟩ := kZ_sp h8
  obtain ⟨x11, l9, e9, h10⟩ := kI_sp h9
  obtain ⟨ey, hy⟩ := kE_sp h10
  subst ez
  subst ey
  subst e9
  subst e8
  subst e7
  subst e6
  subst e5
  subst e4
  subst e3
  subst e2
  subst e1
  subst e0
  exact H x0 x1 x2 x3 x6 x8 x11 τ hy z4 z5 z10
def kp_72_115 (Q : Nat → Int32 → Int32 → Int32 → Int64 → Int64 → Int32 → Int32 → px_M → Prop) : px_P := fun ls st τ => st = [] ∧ kN ls (fun x0 ls => kI ls (fun x1 ls => kI ls (fun x2 ls => kI ls (fun x3 ls => kZ ls (fun ls => kZ ls (fun ls => kJ ls (fun x6 ls => kJ ls (fun x8 ls => kI ls (fun x10 ls => kI ls (fun x11 ls => kE ls (Q x0 x1 x2 x3 x6 x8 x10 x11 τ)))))))))))
theorem kq_72_115 {C : px_C} {k : Option px_V → px_M → Prop} {Q : Nat → Int32 → Int32 → Int32 → Int64 → Int64 → Int32 → Int32 → px_M → Prop} (H : ∀ (x0 : Nat) (x1 : Int32) (x2 : Int32) (x3 : Int32) (x6 : Int64) (x8 : Int64) (x10 : Int32) (x11 : Int32) (τ : px_M), Q x0 x1 x2 x3 x6 x8 x10 x11 τ → ∀ (z4 : Option px_V) (z5 : Option px_V), px_W C k 115 [some (.inr (.inr (some x0))), some (.inl x1), some (.inl x2), some (.inl x3), z4, z5, some (.inr (.inl x6)), none, some (.inr (.inl x8)), none, some (.inl x10), some (.inl x11)] [] τ) : ∀ ls st τ, kp_72_115 Q ls st τ → px_W C k 115 ls st τ := by
  intro ls st τ hz
  obtain ⟨ez, h0⟩ := hz
  obtain ⟨x0, l0, e0, h1⟩ := kN_sp h0
  obtain ⟨x1, l1, e1, h2⟩ := kI_sp h1
  obtain ⟨x2, l2, e2, h3⟩ := kI_sp h2
  obtain ⟨x3, l3, e3, h4⟩ := kI_sp h3
  obtain ⟨z4, l4, e4, h5⟩ := kZ_sp h4
  obtain ⟨z5, l5, e5, h6⟩ := kZ_sp h5
  obtain ⟨x6, l6, e6, h7⟩ := kJ_sp h6
  obtain ⟨x8, l7, e7, h8⟩ := kJ_sp h7
  obtain ⟨x10, l8, e8, h9⟩ := kI_sp h8
  obtain ⟨x11, l9, e9, h10⟩ := kI_sp h9
  obtain ⟨ey, hy⟩ := kE_sp h10
  subst ez
  subst ey
  subst e9
  subst e8
  subst e7
  subst e6
  subst e5
  subst e4
  subst e3
  subst e2
  subst e1
  subst e0
  exact H x0 x1 x2 x3 x6 x8 x10 x11 τ hy z4 z5
def kp_72_112 (Q : Nat → Int32 → Int32 → Int32 → Int64 → Int64 → Int32 → px_M → Prop) : px_P := fun ls st τ => st = [] ∧ kN ls (fun x0 ls => kI ls (fun x1 ls => kI ls (fun x2 ls => kI ls (fun x3 ls => kZ ls (fun ls => kZ ls (fun ls => kJ ls (fun x6 ls => kJ ls (fun x8 ls => kI ls (fun x10 ls => kZ ls (fun ls => kE ls (Q x0 x1 x2 x3 x6 x8 x10 τ)))))))))))
theorem kq_72_112 {C : px_C} {k : Option px_V → px_M → Prop} {Q : Nat → Int32 → Int32 → Int32 → Int64 → Int64 → Int32 → px_M → Prop} (H : ∀ (x0 : Nat) (x1 : Int32) (x2 : Int32) (x3 : Int32) (x6 : Int64) (x8 : Int64) (x10 : Int32) (τ : px_M), Q x0 x1 x2 x3 x6 x8 x10 τ → ∀ (z4 : Option px_V) (z5 : Option px_V) (z11 : Option px_V), px_W C k 112 [some (.inr (.inr (some x0))), some (.inl x1), some (.inl x2), some (.inl x3), z4, z5, some (.inr (.inl x6)), none, some (.inr (.inl x8)), none, some (.inl x10), z11] [] τ) : ∀ ls st τ, kp_72_112 Q ls st τ → px_W C k 112 ls st τ := by
  intro ls st τ hz
  obtain ⟨ez, h0⟩ := hz
  obtain ⟨x0, l0, e0, h1⟩ := kN_sp h0
  obtain ⟨x1, l1, e1, h2⟩ := kI_sp h1
  obtain ⟨x2, l2, e2, h3⟩ := kI_sp h2
  obtain ⟨x3, l3, e3, h4⟩ := kI_sp h3
  obtain ⟨z4, l4, e4, h5⟩ := kZ_sp h4
  obtain ⟨z5, l5, e5, h6⟩ := kZ_sp h5
  obtain ⟨x6, l6, e6, h7⟩ := kJ_sp h6
  obtain ⟨x8, l7, e7, h8⟩ := kJ_sp h7
  obtain ⟨x10, l8, e8, h9⟩ := kI_sp h8
  obtain ⟨z11, l9, e9, h10⟩ := kZ_sp h9
  obtain ⟨ey, hy⟩ := kE_sp h10
  subst ez
  subst ey
  subst e9
  subst e8
  subst e7
  subst e6
  subst e5
  subst e4
  subst e3
  subst e2
  subst e1
  subst e0
  exact H x0 x1 x2 x3 x6 x8 x10 τ hy z4 z5 z11
def kp_72_83 (Q : Nat → Int32 → Int32 → Int32 → Int64 → Int64 → px_M → Prop) : px_P := fun ls st τ => st = [] ∧ kN ls (fun x0 ls => kI ls (fun x1 ls => kI ls (fun x2 ls => kI ls (fun x3 ls => kZ ls (fun ls => kZ ls (fun ls => kJ ls (fun x6 ls => kJ ls (fun x8 ls => kZ ls (fun ls => kZ ls (fun ls => kE ls (Q x0 x1 x2 x3 x6 x8 τ)))))))))))
theorem kq_72_83 {C : px_C} {k : Option px_V → px_M → Prop} {Q : Nat → Int32 → Int32 → Int32 → Int64 → Int64 → px_M → Prop} (H : ∀ (x0 : Nat) (x1 : Int32) (x2 : Int32) (x3 : Int32) (x6 : Int64) (x8 : Int64) (τ : px_M), Q x0 x1 x2 x3 x6 x8 τ → ∀ (z4 : Option px_V) (z5 : Option px_V) (z10 : Option px_V) (z11 : Option px_V), px_W C k 83 [some (.inr (.inr (some x0))), some (.inl x1), some (.inl x2), some (.inl x3), z4, z5, some (.inr (.inl x6)), none, some (.inr (.inl x8)), none, z10, z11] [] τ) : ∀ ls st τ, kp_72_83 Q ls st τ → px_W C k 83 ls st τ := by
  intro ls st τ hz
  obtain ⟨ez, h0⟩ := hz
  obtain ⟨x0, l0, e0, h1⟩ := kN_sp h0
  obtain ⟨x1, l1, e1, h2⟩ := kI_sp h1
  obtain ⟨x2, l2, e2, h3⟩ := kI_sp h2
  obtain ⟨x3, l3, e3, h4⟩ := kI_sp h3
  obtain ⟨z4, l4, e4, h5⟩ := kZ_sp h4
  obtain ⟨z5, l5, e5, h6⟩ := kZ_sp h5
  obtain ⟨x6, l6, e6, h7⟩ := kJ_sp h6
  obtain ⟨x8, l7, e7, h8⟩ := kJ_sp h7
  obtain ⟨z10, l8, e8, h9⟩ := kZ_sp h8
  obtain ⟨z11, l9, e9, h10⟩ := kZ_sp h9
  obtain ⟨ey, hy⟩ := kE_sp h10
  subst ez
  subst ey
  subst e9
  subst e8
  subst e7
  subst e6
  subst e5
  subst e4
  subst e3
  subst e2
  subst e1
  subst e0
  exact H x0 x1 x2 x3 x6 x8 τ hy z4 z5 z10 z11
def kp_72_79 (Q : Nat → Int32 → Int32 → Int32 → Int64 → Int64 → px_M → Prop) : px_P := fun ls st τ => st = [] ∧ kN ls (fun x0 ls => kI ls (fun x1 ls => kI ls (fun x2 ls => kI ls (fun x3 ls => kZ ls (fun ls => kZ ls (fun ls => kJ ls (fun x6 ls => kJ ls (fun x8 ls => kZ ls (fun ls => kZ ls (fun ls => kE ls (Q x0 x1 x2 x3 x6 x8 τ)))))))))))
theorem kq_72_79 {C : px_C} {k : Option px_V → px_M → Prop} {Q : Nat → Int32 → Int32 → Int32 → Int64 → Int64 → px_M → Prop} (H : ∀ (x0 : Nat) (x1 : Int32) (x2 : Int32) (x3 : Int32) (x6 : Int64) (x8 : Int64) (τ : px_M), Q x0 x1 x2 x3 x6 x8 τ → ∀ (z4 : Option px_V) (z5 : Option px_V) (z10 : Option px_V) (z11 : Option px_V), px_W C k 79 [some (.inr (.inr (some x0))), some (.inl x1), some (.inl x2), some (.inl x3), z4, z5, some (.inr (.inl x6)), none, some (.inr (.inl x8)), none, z10, z11] [] τ) : ∀ ls st τ, kp_72_79 Q ls st τ → px_W C k 79 ls st τ := by
  intro ls st τ hz
  obtain ⟨ez, h0⟩ := hz
  obtain ⟨x0, l0, e0, h1⟩ := kN_sp h0
  obtain ⟨x1, l1, e1, h2⟩ := kI_sp h1
  obtain ⟨x2, l2, e2, h3⟩ := kI_sp h2
  obtain ⟨x3, l3, e3, h4⟩ := kI_sp h3
  obtain ⟨z4, l4, e4, h5⟩ := kZ_sp h4
  obtain ⟨z5, l5, e5, h6⟩ := kZ_sp h5
  obtain ⟨x6, l6, e6, h7⟩ := kJ_sp h6
  obtain ⟨x8, l7, e7, h8⟩ := kJ_sp h7
  obtain ⟨z10, l8, e8, h9⟩ := kZ_sp h8
  obtain ⟨z11, l9, e9, h10⟩ := kZ_sp h9
  obtain ⟨ey, hy⟩ := kE_sp h10
  subst ez
  subst ey
  subst e9
  subst e8
  subst e7
  subst e6
  subst e5
  subst e4
  subst e3
  subst e2
  subst e1
  subst e0
  exact H x0 x1 x2 x3 x6 x8 τ hy z4 z5 z10 z11
def kp_72_46 (Q : Nat → Int32 → Int32 → Int32 → Int64 → Int64 → Int64 → px_M → Prop) : px_P := fun ls st τ => st = [] ∧ kN ls (fun x0 ls => kI ls (fun x1 ls => kI ls (fun x2 ls => kI ls (fun x3 ls => kJ ls (fun x4 ls => kJ ls (fun x6 ls => kJ ls (fun x8 ls => kZ ls (fun ls => kZ ls (fun ls => kE ls (Q x0 x1 x2 x3 x4 x6 x8 τ))))))))))
theorem kq_72_46 {C : px_C} {k : Option px_V → px_M → Prop} {Q : Nat → Int32 → Int32 → Int32 → Int64 → Int64 → Int64 → px_M → Prop} (H : ∀ (x0 : Nat) (x1 : Int32) (x2 : Int32) (x3 : Int32) (x4 : Int64) (x6 : Int64) (x8 : Int64) (τ : px_M), Q x0 x1 x2 x3 x4 x6 x8 τ → ∀ (z10 : Option px_V) (z11 : Option px_V), px_W C k 46 [some (.inr (.inr (some x0))), some (.inl x1), some (.inl x2), some (.inl x3), some (.inr (.inl x4)), none, some (.inr (.inl x6)), none, some (.inr (.inl x8)), none, z10, z11] [] τ) : ∀ ls st τ, kp_72_46 Q ls st τ → px_W C k 46 ls st τ := by
  intro ls st τ hz
  obtain ⟨ez, h0⟩ := hz
  obtain ⟨x0, l0, e0, h1⟩ := kN_sp h0
  obtain ⟨x1, l1, e1, h2⟩ := kI_sp h1
  obtain ⟨x2, l2, e2, h3⟩ := kI_sp h2
  obtain ⟨x3, l3, e3, h4⟩ := kI_sp h3
  obtain ⟨x4, l4, e4, h5⟩ := kJ_sp h4
  obtain ⟨x6, l5, e5, h6⟩ := kJ_sp h5
  obtain ⟨x8, l6, e6, h7⟩ := kJ_sp h6
  obtain ⟨z10, l7, e7, h8⟩ := kZ_sp h7
  obtain ⟨z11, l8, e8, h9⟩ := kZ_sp h8
  obtain ⟨ey, hy⟩ := kE_sp h9
  subst ez
  subst ey
  subst e8
  subst e7
  subst e6
  subst e5
  subst e4
  subst e3
  subst e2
  subst e1
  subst e0
  exact H x0 x1 x2 x3 x4 x6 x8 τ hy z10 z11
def kp_72_38 (Q : Nat → Int32 → Int32 → Int32 → Int64 → Int64 → px_M → Prop) : px_P := fun ls st τ => st = [] ∧ kN ls (fun x0 ls => kI ls (fun x1 ls => kI ls (fun x2 ls => kI ls (fun x3 ls => kJ ls (fun x4 ls => kJ ls (fun x6 ls => kZ ls (fun ls => kZ ls (fun ls => kZ ls (fun ls => kZ ls (fun ls => kE ls (Q x0 x1 x2 x3 x4 x6 τ)))))))))))
theorem kq_72_38 {C : px_C} {k : Option px_V → px_M → Prop} {Q : Nat → Int32 → Int32 → Int32 → Int64 → Int64 → px_M → Prop} (H : ∀ (x0 : Nat) (x1 : Int32) (x2 : Int32) (x3 : Int32) (x4 : Int64) (x6 : Int64) (τ : px_M), Q x0 x1 x2 x3 x4 x6 τ → ∀ (z8 : Option px_V) (z9 : Option px_V) (z10 : Option px_V) (z11 : Option px_V), px_W C k 38 [some (.inr (.inr (some x0))), some (.inl x1), some (.inl x2), some (.inl x3), some (.inr (.inl x4)), none, some (.inr (.inl x6)), none, z8, z9, z10, z11] [] τ) : ∀ ls st τ, kp_72_38 Q ls st τ → px_W C k 38 ls st τ := by
  intro ls st τ hz
  obtain ⟨ez, h0⟩ := hz
  obtain ⟨x0, l0, e0, h1⟩ := kN_sp h0
  obtain ⟨x1, l1, e1, h2⟩ := kI_sp h1
  obtain ⟨x2, l2, e2, h3⟩ := kI_sp h2
  obtain ⟨x3, l3, e3, h4⟩ := kI_sp h3
  obtain ⟨x4, l4, e4, h5⟩ := kJ_sp h4
  obtain ⟨x6, l5, e5, h6⟩ := kJ_sp h5
  obtain ⟨z8, l6, e6, h7⟩ := kZ_sp h6
  obtain ⟨z9, l7, e7, h8⟩ := kZ_sp h7
  obtain ⟨z10, l8, e8, h9⟩ := kZ_sp h8
  obtain ⟨z11, l9, e9, h10⟩ := kZ_sp h9
  obtain ⟨ey, hy⟩ := kE_sp h10
  subst ez
  subst ey
  subst e9
  subst e8
  subst e7
  subst e6
  subst e5
  subst e4
  subst e3
  subst e2
  subst e1
  subst e0
  exact H x0 x1 x2 x3 x4 x6 τ hy z8 z9 z10 z11
def kp_72_7 (Q : Nat → Int32 → Int32 → Int32 → px_M → Prop) : px_P := fun ls st τ => st = [] ∧ kN ls (fun x0 ls => kI ls (fun x1 ls => kI ls (fun x2 ls => kI ls (fun x3 ls => kZ ls (fun ls => kZ ls (fun ls => kZ ls (fun ls => kZ ls (fun ls => kZ ls (fun ls => kZ ls (fun ls => kZ ls (fun ls => kZ ls (fun ls => kE ls (Q x0 x1 x2 x3 τ)))))))))))))
theorem kq_72_7 {C : px_C} {k : Option px_V → px_M → Prop} {Q : Nat → Int32 → Int32 → Int32 → px_M → Prop} (H : ∀ (x0 : Nat) (x1 : Int32) (x2 : Int32) (x3 : Int32) (τ : px_M), Q x0 x1 x2 x3 τ → ∀ (z4 : Option px_V) (z5 : Option px_V) (z6 : Option px_V) (z7 : Option px_V) (z8 : Option px_V) (z9 : Option px_V) (z10 : Option px_V) (z11 : Option px_V), px_W C k 7 [some (.inr (.inr (some x0))), some (.inl x1), some (.inl x2), some (.inl x3), z4, z5, z6, z7, z8, z9, z10, z11] [] τ) : ∀ ls st τ, kp_72_7 Q ls st τ → px_W C k 7 ls st τ := by
  intro ls st τ hz
  obtain ⟨ez, h0⟩ := hz
  obtain ⟨x0, l0, e0, h1⟩ := kN_sp h0
  obtain ⟨x1, l1, e1, h2⟩ := kI_sp h1
  obtain ⟨x2, l2, e2, h3⟩ := kI_sp h2
  obtain ⟨x3, l3, e3, h4⟩ := kI_sp h3
  obtain ⟨z4, l4, e4, h5⟩ := kZ_sp h4
  obtain ⟨z5, l5, e5, h6⟩ := kZ_sp h5
  obtain ⟨z6, l6, e6, h7⟩ := kZ_sp h6
  obtain ⟨z7, l7, e7, h8⟩ := kZ_sp h7
  obtain ⟨z8, l8, e8, h9⟩ := kZ_sp h8
  obtain ⟨z9, l9, e9, h10⟩ := kZ_sp h9
  obtain ⟨z10, l10, e10, h11⟩ := kZ_sp h10
  obtain ⟨z11, l11, e11, h12⟩ := kZ_sp h11
  obtain ⟨ey, hy⟩ := kE_sp h12
  subst ez
  subst ey
  subst e11
  subst e10
  subst e9
  subst e8
  subst e7
  subst e6
  subst e5
  subst e4
  subst e3
  subst e2
  subst e1
  subst e0
  exact H x0 x1 x2 x3 τ hy z4 z5 z6 z7 z8 z9 z10 z11
set_option maxHeartbeats 4000000 in
set_option maxRecDepth 100000 in
theorem rl_72_193 {C : px_C} (hn : px_nd (px_tb C)) {h : Nat} (hh : 33 ≤ h) (hC : px_ok C pn_i72 h) {k : Option px_V → px_M → Prop} {x0 : Nat} {x1 : Int32} {x2 : Int32} {x3 : Int32} {σ : px_M} (hs : oW (f_72_193 (px_tb C) σ x0 x1 x2 x3) (Sum.elim (fun s : Int32 × px_M => ∀ (z4 : Option px_V) (z5 : Option px_V) (z6 : Option px_V) (z7 : Option px_V) (z8 : Option px_V) (z9 : Option px_V) (z10 : Option px_V) (z11 : Option px_V), px_W C k 7 [some (.inr (.inr (some x0))), some (.inl x1), some (.inl x2), some (.inl s.1), z4, z5, z6, z7, z8, z9, z10, z11] [] s.2) (fun q => k (some (.inl q.1)) q.2))) : ∀ (z4 : Option px_V) (z5 : Option px_V) (z6 : Option px_V) (z7 : Option px_V) (z8 : Option px_V) (z9 : Option px_V) (z10 : Option px_V) (z11 : Option px_V), px_W C k 193 [some (.inr (.inr (some x0))), some (.inl x1), some (.inl x2), some (.inl x3), z4, z5, z6, z7, z8, z9, z10, z11] [] σ := by
  intro z4 z5 z6 z7 z8 z9 z10 z11
  refine px_runH (h - 1) ck_72 [] [(7, kp_72_7 (fun y0 y1 y2 y3 τ => y0 = x0 ∧ y1 = x1 ∧ y2 = x2 ∧ (fun s : Int32 × px_M => ∀ (z4 : Option px_V) (z5 : Option px_V) (z6 : Option px_V) (z7 : Option px_V) (z8 : Option px_V) (z9 : Option px_V) (z10 : Option px_V) (z11 : Option px_V), px_W C k 7 [some (.inr (.inr (some x0))), some (.inl x1), some (.inl x2), some (.inl s.1), z4, z5, z6, z7, z8, z9, z10, z11] [] s.2) (y3, τ)))] 80 12 (some .int) rfl rfl hC px_nosp (by omega) (px_cut1 (kq_72_7 (fun y0 y1 y2 y3 τ hq => by obtain ⟨rfl, rfl, rfl, hq⟩ := hq; exact hq)) px_nocut) (fun G Jf hG hJf => ?_)
  unfold f_72_193 at hs
  simp only [↓hG, ↓hJf, ↓px_vc, ↓px_ex, ↓px_jp, ↓px_gi, ↓px_gl, ↓px_gr, ↓px_s1, ↓px_s2, ↓px_nl, ↓px_i1, ↓px_l1, ↓r1_s, ↓px_q1, ↓px_i2, ↓px_l2, ↓px_il, ↓px_d0, ↓px_d1, ↓px_d2, ↓px_pop, ↓px_sp, ↓px_rd, ↓px_rf, ↓pn_xf, ↓px_pt, ↓px_sw, ↓pn_SW, ↓px_ma, ↓reduceIte, Nat.reduceEqDiff, Nat.reduceAdd, Nat.reduceSub, ↓Option.toList_some, ↓Option.toList_none, ↓List.cons_append, ↓List.nil_append, ↓kI_s, ↓kJ_s, ↓kN_s, ↓kO_s, ↓kZ_s, ↓kE_s, ↓an_rfl, ↓bt1 n00, ↓bt2 n00, ↓bf1 n10, ↓bf2 n10, ↓an_sz0, ↓an_sz1, ↓an_sz2, ↓an_sz3, ↓an_sz4, ↓an_ri, ↓an_rb0, ↓an_rb1, ↓an_b0, ↓an_b1, true_and, ↓ai_0s, ↓al_0s, ↓av_0s, ↓aq_0s, ↓ai_1s, ↓al_1s, ↓av_1s, ↓aq_1s, ↓ai_2s, ↓al_2s, ↓av_2s, ↓aq_2s, ↓ai_3s, ↓al_3s, ↓av_3s, ↓aq_3s, ↓ai_4s, ↓al_4s, ↓av_4s, ↓aq_4s, ↓ai_5s, ↓al_5s, ↓av_5s, ↓aq_5s, ↓ai_6s, ↓al_6s, ↓av_6s, ↓aq_6s, ↓ai_7s, ↓al_7s, ↓av_7s, ↓aq_7s, ↓an_l12, ↓bk_72, ↓kp_72_7]
  rw [oW_some] at hs
  exact hs
set_option maxHeartbeats 4000000 in
set_option maxRecDepth 100000 in
theorem rl_72_162 {C : px_C} (hn : px_nd (px_tb C)) {h : Nat} (hh : 33 ≤ h) (hC : px_ok C pn_i72 h) {k : Option px_V → px_M → Prop} {x0 : Nat} {x1 : Int32} {x2 : Int32} {x3 : Int32} {x6 : Int64} {x8 : Int64} {x11 : Int32} {σ : px_M} (hs : oW (f_72_162 (px_tb C) σ x0 x1 x2 x3 x6 x8 x11) (Sum.elim (fun s : Int32 × px_M => ∀ (z4 : Option px_V) (z5 : Option px_V) (z6 : Option px_V) (z7 : Option px_V) (z8 : Option px_V) (z9 : Option px_V) (z10 : Option px_V) (z11 : Option px_V), px_W C k 7 [some (.inr (.inr (some x0))), some (.inl x1), some (.inl x2), some (.inl s.1), z4, z5, z6, z7, z8, z9, z10, z11] [] s.2) (fun q => k (some (.inl q.1)) q.2))) : ∀ (z4 : Option px_V) (z5 : Option px_V) (z10 : Option px_V), px_W C k 162 [some (.inr (.inr (some x0))), some (.inl x1), some (.inl x2), some (.inl x3), z4, z5, some (.inr (.inl x6)), none, some (.inr (.inl x8)), none, z10, some (.inl x11)] [] σ := by
  intro z4 z5 z10
  refine px_runH (h - 1) ck_72 [(15, Sg_15 (f_15 (px_tb C))), (59, Sg_59 (f_59 (px_tb C)))] [(193, kp_72_193 (fun y0 y1 y2 y3 τ => y0 = x0 ∧ y1 = x1 ∧ y2 = x2 ∧ oW (f_72_193 (px_tb C) τ y0 y1 y2 y3) (Sum.elim (fun s : Int32 × px_M => ∀ (z4 : Option px_V) (z5 : Option px_V) (z6 : Option px_V) (z7 : Option px_V) (z8 : Option px_V) (z9 : Option px_V) (z10 : Option px_V) (z11 : Option px_V), px_W C k 7 [some (.inr (.inr (some x0))), some (.inl x1), some (.inl x2), some (.inl s.1), z4, z5, z6, z7, z8, z9, z10, z11] [] s.2) (fun q => k (some (.inl q.1)) q.2))))] 80 12 (some .int) rfl rfl hC (px_sp1 (mf_15 hn (by omega)) (px_sp1 (mf_59 hn (by omega)) px_nosp)) (by omega) (px_cut1 (kq_72_193 (fun y0 y1 y2 y3 τ hq => by obtain ⟨rfl, rfl, rfl, hq⟩ := hq; exact rl_72_193 hn (by omega) hC  hq)) px_nocut) (fun G Jf hG hJf => ?_)
  unfold f_72_162 at hs
  by_cases hc0 : x11 = nI 0
  · replace hs := oW_t hs hc0
    obtain ⟨hc1, hs⟩ := oW_gx hs
    obtain ⟨n1, hc2, hs⟩ := oW_bx hs
    obtain ⟨q2, hc3, hs⟩ := oW_bx hs
    simp only [↓hG, ↓hJf, ↓px_vc, ↓px_ex, ↓px_jp, ↓px_gi, ↓px_gl, ↓px_gr, ↓px_s1, ↓px_s2, ↓px_nl, ↓px_i1, ↓px_l1, ↓r1_s, ↓px_q1, ↓px_i2, ↓px_l2, ↓px_il, ↓px_d0, ↓px_d1, ↓px_d2, ↓px_pop, ↓px_sp, ↓px_rd, ↓px_rf, ↓pn_xf, ↓px_pt, ↓px_sw, ↓pn_SW, ↓px_ma, ↓reduceIte, Nat.reduceEqDiff, Nat.reduceAdd, Nat.reduceSub, ↓Option.toList_some, ↓Option.toList_none, ↓List.cons_append, ↓List.nil_append, ↓kI_s, ↓kJ_s, ↓kN_s, ↓kO_s, ↓kZ_s, ↓kE_s, ↓an_rfl, ↓bt1 n00, ↓bt2 n00, ↓bf1 n10, ↓bf2 n10, ↓an_sz0, ↓an_sz1, ↓an_sz2, ↓an_sz3, ↓an_sz4, ↓an_ri, ↓an_rb0, ↓an_rb1, ↓an_b0, ↓an_b1, true_and, ↓ai_0s, ↓al_0s, ↓av_0s, ↓aq_0s, ↓ai_1s, ↓al_1s, ↓av_1s, ↓aq_1s, ↓ai_2s, ↓al_2s, ↓av_2s, ↓aq_2s, ↓ai_3s, ↓al_3s, ↓av_3s, ↓aq_3s, ↓ai_4s, ↓al_4s, ↓av_4s, ↓aq_4s, ↓ai_5s, ↓al_5s, ↓av_5s, ↓aq_5s, ↓ai_6s, ↓al_6s, ↓av_6s, ↓aq_6s, ↓ai_7s, ↓al_7s, ↓av_7s, ↓aq_7s, ↓an_l12, ↓bk_72, ↓Sg_15, ↓Sg_59, ↓kp_72_193, ↓bt1 hc0, ↓bt2 hc0, ↓an_t hc1, ↓an_rv hc1, ↓r1_e hc2, ↓av_0e hc2, ↓av_1e hc2, ↓av_2e hc2, ↓av_3e hc2, ↓oW_e hc3]
    exact hs
  · replace hs := oW_f hs hc0
    obtain ⟨hc1, hs⟩ := oW_gx hs
    obtain ⟨q3, hc2, hs⟩ := oW_bx hs
    simp only [↓hG, ↓hJf, ↓px_vc, ↓px_ex, ↓px_jp, ↓px_gi, ↓px_gl, ↓px_gr, ↓px_s1, ↓px_s2, ↓px_nl, ↓px_i1, ↓px_l1, ↓r1_s, ↓px_q1, ↓px_i2, ↓px_l2, ↓px_il, ↓px_d0, ↓px_d1, ↓px_d2, ↓px_pop, ↓px_sp, ↓px_rd, ↓px_rf, ↓pn_xf, ↓px_pt, ↓px_sw, ↓pn_SW, ↓px_ma, ↓reduceIte, Nat.reduceEqDiff, Nat.reduceAdd, Nat.reduceSub, ↓Option.toList_some, ↓Option.toList_none, ↓List.cons_append, ↓List.nil_append, ↓kI_s, ↓kJ_s, ↓kN_s, ↓kO_s, ↓kZ_s, ↓kE_s, ↓an_rfl, ↓bt1 n00, ↓bt2 n00, ↓bf1 n10, ↓bf2 n10, ↓an_sz0, ↓an_sz1, ↓an_sz2, ↓an_sz3, ↓an_sz4, ↓an_ri, ↓an_rb0, ↓an_rb1, ↓an_b0, ↓an_b1, true_and, ↓ai_0s, ↓al_0s, ↓av_0s, ↓aq_0s, ↓ai_1s, ↓al_1s, ↓av_1s, ↓aq_1s, ↓ai_2s, ↓al_2s, ↓av_2s, ↓aq_2s, ↓ai_3s, ↓al_3s, ↓av_3s, ↓aq_3s, ↓ai_4s, ↓al_4s, ↓av_4s, ↓aq_4s, ↓ai_5s, ↓al_5s, ↓av_5s, ↓aq_5s, ↓ai_6s, ↓al_6s, ↓av_6s, ↓aq_6s, ↓ai_7s, ↓al_7s, ↓av_7s, ↓aq_7s, ↓an_l12, ↓bk_72, ↓Sg_15, ↓Sg_59, ↓kp_72_193, ↓bf1 hc0, ↓bf2 hc0, ↓an_t hc1, ↓an_rv hc1, ↓oW_e hc2]
    exact hs
set_option maxHeartbeats 4000000 in
set_option maxRecDepth 100000 in
theorem rl_72_145 {C : px_C} (hn : px_nd (px_tb C)) {h : Nat} (hh : 33 ≤ h) (hC : px_ok C pn_i72 h) {k : Option px_V → px_M → Prop} {x0 : Nat} {x1 : Int32} {x2 : Int32} {x3 : Int32} {x6 : Int64} {x8 : Int64} {x11 : Int32} {σ : px_M} (hs : oW (f_72_145 (px_tb C) σ x0 x1 x2 x3 x6 x8 x11) (Sum.elim (fun s : Int32 × px_M => ∀ (z4 : Option px_V) (z5 : Option px_V) (z6 : Option px_V) (z7 : Option px_V) (z8 : Option px_V) (z9 : Option px_V) (z10 : Option px_V) (z11 : Option px_V), px_W C k 7 [some (.inr (.inr (some x0))), some (.inl x1), some (.inl x2), some (.inl s.1), z4, z5, z6, z7, z8, z9, z10, z11] [] s.2) (fun q => k (some (.inl q.1)) q.2))) : ∀ (z4 : Option px_V) (z5 : Option px_V) (z10 : Option px_V), px_W C k 145 [some (.inr (.inr (some x0))), some (.inl x1), some (.inl x2), some (.inl x3), z4, z5, some (.inr (.inl x6)), none, some (.inr (.inl x8)), none, z10, some (.inl x11)] [] σ := by
  intro z4 z5 z10
  refine px_runH (h - 1) ck_72 [(58, Sg_58 (f_58 (px_tb C)))] [(162, kp_72_162 (fun y0 y1 y2 y3 y6 y8 y11 τ => y0 = x0 ∧ y1 = x1 ∧ y2 = x2 ∧ oW (f_72_162 (px_tb C) τ y0 y1 y2 y3 y6 y8 y11) (Sum.elim (fun s : Int32 × px_M => ∀ (z4 : Option px_V) (z5 : Option px_V) (z6 : Option px_V) (z7 : Option px_V) (z8 : Option px_V) (z9 : Option px_V) (z10 : Option px_V) (z11 : Option px_V), px_W C k 7 [some (.inr (.inr (some x0))), some (.inl x1), some (.inl x2), some (.inl s.1), z4, z5, z6, z7, z8, z9, z10, z11] [] s.2) (fun q => k (some (.inl q.1)) q.2))))] 80 12 (some .int) rfl rfl hC (px_sp1 (mf_58 hn (by omega)) px_nosp) (by omega) (px_cut1 (kq_72_162 (fun y0 y1 y2 y3 y6 y8 y11 τ hq => by obtain ⟨rfl, rfl, rfl, hq⟩ := hq; exact rl_72_162 hn (by omega) hC  hq)) px_nocut) (fun G Jf hG hJf => ?_)
  unfold f_72_145 at hs
  obtain ⟨hc0, hs⟩ := oW_gx hs
  by_cases hc1 : ((σ).1 x0 21) = nI 0
  · replace hs := oW_t hs hc1
    by_cases hc2 : x2 = nI 0
    · replace hs := oW_t hs hc2
      simp only [↓hG, ↓hJf, ↓px_vc, ↓px_ex, ↓px_jp, ↓px_gi, ↓px_gl, ↓px_gr, ↓px_s1, ↓px_s2, ↓px_nl, ↓px_i1, ↓px_l1, ↓r1_s, ↓px_q1, ↓px_i2, ↓px_l2, ↓px_il, ↓px_d0, ↓px_d1, ↓px_d2, ↓px_pop, ↓px_sp, ↓px_rd, ↓px_rf, ↓pn_xf, ↓px_pt, ↓px_sw, ↓pn_SW, ↓px_ma, ↓reduceIte, Nat.reduceEqDiff, Nat.reduceAdd, Nat.reduceSub, ↓Option.toList_some, ↓Option.toList_none, ↓List.cons_append, ↓List.nil_append, ↓kI_s, ↓kJ_s, ↓kN_s, ↓kO_s, ↓kZ_s, ↓kE_s, ↓an_rfl, ↓bt1 n00, ↓bt2 n00, ↓bf1 n10, ↓bf2 n10, ↓an_sz0, ↓an_sz1, ↓an_sz2, ↓an_sz3, ↓an_sz4, ↓an_ri, ↓an_rb0, ↓an_rb1, ↓an_b0, ↓an_b1, true_and, ↓ai_0s, ↓al_0s, ↓av_0s, ↓aq_0s, ↓ai_1s, ↓al_1s, ↓av_1s, ↓aq_1s, ↓ai_2s, ↓al_2s, ↓av_2s, ↓aq_2s, ↓ai_3s, ↓al_3s, ↓av_3s, ↓aq_3s, ↓ai_4s, ↓al_4s, ↓av_4s, ↓aq_4s, ↓ai_5s, ↓al_5s, ↓av_5s, ↓aq_5s, ↓ai_6s, ↓al_6s, ↓av_6s, ↓aq_6s, ↓ai_7s, ↓al_7s, ↓av_7s, ↓aq_7s, ↓an_l12, ↓bk_72, ↓Sg_58, ↓kp_72_162, ↓an_t hc0, ↓an_rv hc0, ↓bt1 hc1, ↓bt2 hc1, ↓bt1 hc2, ↓bt2 hc2]
      exact hs
    · replace hs := oW_f hs hc2
      obtain ⟨q1, hc3, hs⟩ := oW_bx hs
      simp only [↓hG, ↓hJf, ↓px_vc, ↓px_ex, ↓px_jp, ↓px_gi, ↓px_gl, ↓px_gr, ↓px_s1, ↓px_s2, ↓px_nl, ↓px_i1, ↓px_l1, ↓r1_s, ↓px_q1, ↓px_i2, ↓px_l2, ↓px_il, ↓px_d0, ↓px_d1, ↓px_d2, ↓px_pop, ↓px_sp, ↓px_rd, ↓px_rf, ↓pn_xf, ↓px_pt, ↓px_sw, ↓pn_SW, ↓px_ma, ↓reduceIte, Nat.reduceEqDiff, Nat.reduceAdd, Nat.reduceSub, ↓Option.toList_some, ↓Option.toList_none, ↓List.cons_append, ↓List.nil_append, ↓kI_s, ↓kJ_s, ↓kN_s, ↓kO_s, ↓kZ_s, ↓kE_s, ↓an_rfl, ↓bt1 n00, ↓bt2 n00, ↓bf1 n10, ↓bf2 n10, ↓an_sz0, ↓an_sz1, ↓an_sz2, ↓an_sz3, ↓an_sz4, ↓an_ri, ↓an_rb0, ↓an_rb1, ↓an_b0, ↓an_b1, true_and, ↓ai_0s, ↓al_0s, ↓av_0s, ↓aq_0s, ↓ai_1s, ↓al_1s, ↓av_1s, ↓aq_1s, ↓ai_2s, ↓al_2s, ↓av_2s, ↓aq_2s, ↓ai_3s, ↓al_3s, ↓av_3s, ↓aq_3s, ↓ai_4s, ↓al_4s, ↓av_4s, ↓aq_4s, ↓ai_5s, ↓al_5s, ↓av_5s, ↓aq_5s, ↓ai_6s, ↓al_6s, ↓av_6s, ↓aq_6s, ↓ai_7s, ↓al_7s, ↓av_7s, ↓aq_7s, ↓an_l12, ↓bk_72, ↓Sg_58, ↓kp_72_162, ↓an_t hc0, ↓an_rv hc0, ↓bt1 hc1, ↓bt2 hc1, ↓bf1 hc2, ↓bf2 hc2, ↓oW_e hc3]
      exact hs
  · replace hs := oW_f hs hc1
    simp only [↓hG, ↓hJf, ↓px_vc, ↓px_ex, ↓px_jp, ↓px_gi, ↓px_gl, ↓px_gr, ↓px_s1, ↓px_s2, ↓px_nl, ↓px_i1, ↓px_l1, ↓r1_s, ↓px_q1, ↓px_i2, ↓px_l2, ↓px_il, ↓px_d0, ↓px_d1, ↓px_d2, ↓px_pop, ↓px_sp, ↓px_rd, ↓px_rf, ↓pn_xf, ↓px_pt, ↓px_sw, ↓pn_SW, ↓px_ma, ↓reduceIte, Nat.reduceEqDiff, Nat.reduceAdd, Nat.reduceSub, ↓Option.toList_some, ↓Option.toList_none, ↓List.cons_append, ↓List.nil_append, ↓kI_s, ↓kJ_s, ↓kN_s, ↓kO_s, ↓kZ_s, ↓kE_s, ↓an_rfl, ↓bt1 n00, ↓bt2 n00, ↓bf1 n10, ↓bf2 n10, ↓an_sz0, ↓an_sz1, ↓an_sz2, ↓an_sz3, ↓an_sz4, ↓an_ri, ↓an_rb0, ↓an_rb1, ↓an_b0, ↓an_b1, true_and, ↓ai_0s, ↓al_0s, ↓av_0s, ↓aq_0s, ↓ai_1s, ↓al_1s, ↓av_1s, ↓aq_1s, ↓ai_2s, ↓al_2s, ↓av_2s, ↓aq_2s, ↓ai_3s, ↓al_3s, ↓av_3s, ↓aq_3s, ↓ai_4s, ↓al_4s, ↓av_4s, ↓aq_4s, ↓ai_5s, ↓al_5s, ↓av_5s, ↓aq_5s, ↓ai_6s, ↓al_6s, ↓av_6s, ↓aq_6s, ↓ai_7s, ↓al_7s, ↓av_7s, ↓aq_7s, ↓an_l12, ↓bk_72, ↓Sg_58, ↓kp_72_162, ↓an_t hc0, ↓an_rv hc0, ↓bf1 hc1, ↓bf2 hc1]
    rw [oW_some] at hs
    exact hs
set_option maxHeartbeats 4000000 in
set_option maxRecDepth 100000 in
theorem rl_72_115 {C : px_C} (hn : px_nd (px_tb C)) {h : Nat} (hh : 33 ≤ h) (hC : px_ok C pn_i72 h) {k : Option px_V → px_M → Prop} {x0 : Nat} {x1 : Int32} {x2 : Int32} {x3 : Int32} {x6 : Int64} {x8 : Int64} {x10 : Int32} {x11 : Int32} {σ : px_M} (hs : oW (f_72_115 (px_tb C) σ x0 x1 x2 x3 x6 x8 x10 x11) (Sum.elim (fun s : Int32 × px_M => ∀ (z4 : Option px_V) (z5 : Option px_V) (z6 : Option px_V) (z7 : Option px_V) (z8 : Option px_V) (z9 : Option px_V) (z10 : Option px_V) (z11 : Option px_V), px_W C k 7 [some (.inr (.inr (some x0))), some (.inl x1), some (.inl x2), some (.inl s.1), z4, z5, z6, z7, z8, z9, z10, z11] [] s.2) (fun q => k (some (.inl q.1)) q.2))) : ∀ (z4 : Option px_V) (z5 : Option px_V), px_W C k 115 [some (.inr (.inr (some x0))), some (.inl x1), some (.inl x2), some (.inl x3), z4, z5, some (.inr (.inl x6)), none, some (.inr (.inl x8)), none, some (.inl x10), some (.inl x11)] [] σ := by
  intro z4 z5
  refine px_runH (h - 1) ck_72 [(57, Sg_57 (f_57 (px_tb C)))] [(145, kp_72_145 (fun y0 y1 y2 y3 y6 y8 y11 τ => y0 = x0 ∧ y1 = x1 ∧ y2 = x2 ∧ oW (f_72_145 (px_tb C) τ y0 y1 y2 y3 y6 y8 y11) (Sum.elim (fun s : Int32 × px_M => ∀ (z4 : Option px_V) (z5 : Option px_V) (z6 : Option px_V) (z7 : Option px_V) (z8 : Option px_V) (z9 : Option px_V) (z10 : Option px_V) (z11 : Option px_V), px_W C k 7 [some (.inr (.inr (some x0))), some (.inl x1), some (.inl x2), some (.inl s.1), z4, z5, z6, z7, z8, z9, z10, z11] [] s.2) (fun q => k (some (.inl q.1)) q.2))))] 80 12 (some .int) rfl rfl hC (px_sp1 (mf_57 hn (by omega)) px_nosp) (by omega) (px_cut1 (kq_72_145 (fun y0 y1 y2 y3 y6 y8 y11 τ hq => by obtain ⟨rfl, rfl, rfl, hq⟩ := hq; exact rl_72_145 hn (by omega) hC  hq)) px_nocut) (fun G Jf hG hJf => ?_)
  unfold f_72_115 at hs
  by_cases hc0 : x10 = nI 0
  · replace hs := bW_t hs hc0
    obtain ⟨hc1, hs⟩ := oW_gx hs
    simp only [↓hG, ↓hJf, ↓px_vc, ↓px_ex, ↓px_jp, ↓px_gi, ↓px_gl, ↓px_gr, ↓px_s1, ↓px_s2, ↓px_nl, ↓px_i1, ↓px_l1, ↓r1_s, ↓px_q1, ↓px_i2, ↓px_l2, ↓px_il, ↓px_d0, ↓px_d1, ↓px_d2, ↓px_pop, ↓px_sp, ↓px_rd, ↓px_rf, ↓pn_xf, ↓px_pt, ↓px_sw, ↓pn_SW, ↓px_ma, ↓reduceIte, Nat.reduceEqDiff, Nat.reduceAdd, Nat.reduceSub, ↓Option.toList_some, ↓Option.toList_none, ↓List.cons_append, ↓List.nil_append, ↓kI_s, ↓kJ_s, ↓kN_s, ↓kO_s, ↓kZ_s, ↓kE_s, ↓an_rfl, ↓bt1 n00, ↓bt2 n00, ↓bf1 n10, ↓bf2 n10, ↓an_sz0, ↓an_sz1, ↓an_sz2, ↓an_sz3, ↓an_sz4, ↓an_ri, ↓an_rb0, ↓an_rb1, ↓an_b0, ↓an_b1, true_and, ↓ai_0s, ↓al_0s, ↓av_0s, ↓aq_0s, ↓ai_1s, ↓al_1s, ↓av_1s, ↓aq_1s, ↓ai_2s, ↓al_2s, ↓av_2s, ↓aq_2s, ↓ai_3s, ↓al_3s, ↓av_3s, ↓aq_3s, ↓ai_4s, ↓al_4s, ↓av_4s, ↓aq_4s, ↓ai_5s, ↓al_5s, ↓av_5s, ↓aq_5s, ↓ai_6s, ↓al_6s, ↓av_6s, ↓aq_6s, ↓ai_7s, ↓al_7s, ↓av_7s, ↓aq_7s, ↓an_l12, ↓bk_72, ↓Sg_57, ↓kp_72_145, ↓bt1 hc0, ↓bt2 hc0, ↓an_t hc1, ↓an_rv hc1]
    exact hs
  · replace hs := bW_f hs hc0
    by_cases hc1 : x11 = nI 0
    · replace hs := oW_t hs hc1
      obtain ⟨hc2, hs⟩ := oW_gx hs
      obtain ⟨q1, hc3, hs⟩ := oW_bx hs
      simp only [↓hG, ↓hJf, ↓px_vc, ↓px_ex, ↓px_jp, ↓px_gi, ↓px_gl, ↓px_gr, ↓px_s1, ↓px_s2, ↓px_nl, ↓px_i1, ↓px_l1, ↓r1_s, ↓px_q1, ↓px_i2, ↓px_l2, ↓px_il, ↓px_d0, ↓px_d1, ↓px_d2, ↓px_pop, ↓px_sp, ↓px_rd, ↓px_rf, ↓pn_xf, ↓px_pt, ↓px_sw, ↓pn_SW, ↓px_ma, ↓reduceIte, Nat.reduceEqDiff, Nat.reduceAdd, Nat.reduceSub, ↓Option.toList_some, ↓Option.toList_none, ↓List.cons_append, ↓List.nil_append, ↓kI_s, ↓kJ_s, ↓kN_s, ↓kO_s, ↓kZ_s, ↓kE_s, ↓an_rfl, ↓bt1 n00, ↓bt2 n00, ↓bf1 n10, ↓bf2 n10, ↓an_sz0, ↓an_sz1, ↓an_sz2, ↓an_sz3, ↓an_sz4, ↓an_ri, ↓an_rb0, ↓an_rb1, ↓an_b0, ↓an_b1, true_and, ↓ai_0s, ↓al_0s, ↓av_0s, ↓aq_0s, ↓ai_1s, ↓al_1s, ↓av_1s, ↓aq_1s, ↓ai_2s, ↓al_2s, ↓av_2s, ↓aq_2s, ↓ai_3s, ↓al_3s, ↓av_3s, ↓aq_3s, ↓ai_4s, ↓al_4s, ↓av_4s, ↓aq_4s, ↓ai_5s, ↓al_5s, ↓av_5s, ↓aq_5s, ↓ai_6s, ↓al_6s, ↓av_6s, ↓aq_6s, ↓ai_7s, ↓al_7s, ↓av_7s, ↓aq_7s, ↓an_l12, ↓bk_72, ↓Sg_57, ↓kp_72_145, ↓bf1 hc0, ↓bf2 hc0, ↓bt1 hc1, ↓bt2 hc1, ↓an_t hc2, ↓an_rv hc2, ↓oW_e hc3]
      exact hs
    · replace hs := oW_f hs hc1
      obtain ⟨hc2, hs⟩ := oW_gx hs
      simp only [↓hG, ↓hJf, ↓px_vc, ↓px_ex, ↓px_jp, ↓px_gi, ↓px_gl, ↓px_gr, ↓px_s1, ↓px_s2, ↓px_nl, ↓px_i1, ↓px_l1, ↓r1_s, ↓px_q1, ↓px_i2, ↓px_l2, ↓px_il, ↓px_d0, ↓px_d1, ↓px_d2, ↓px_pop, ↓px_sp, ↓px_rd, ↓px_rf, ↓pn_xf, ↓px_pt, ↓px_sw, ↓pn_SW, ↓px_ma, ↓reduceIte, Nat.reduceEqDiff, Nat.reduceAdd, Nat.reduceSub, ↓Option.toList_some, ↓Option.toList_none, ↓List.cons_append, ↓List.nil_append, ↓kI_s, ↓kJ_s, ↓kN_s, ↓kO_s, ↓kZ_s, ↓kE_s, ↓an_rfl, ↓bt1 n00, ↓bt2 n00, ↓bf1 n10, ↓bf2 n10, ↓an_sz0, ↓an_sz1, ↓an_sz2, ↓an_sz3, ↓an_sz4, ↓an_ri, ↓an_rb0, ↓an_rb1, ↓an_b0, ↓an_b1, true_and, ↓ai_0s, ↓al_0s, ↓av_0s, ↓aq_0s, ↓ai_1s, ↓al_1s, ↓av_1s, ↓aq_1s, ↓ai_2s, ↓al_2s, ↓av_2s, ↓aq_2s, ↓ai_3s, ↓al_3s, ↓av_3s, ↓aq_3s, ↓ai_4s, ↓al_4s, ↓av_4s, ↓aq_4s, ↓ai_5s, ↓al_5s, ↓av_5s, ↓aq_5s, ↓ai_6s, ↓al_6s, ↓av_6s, ↓aq_6s, ↓ai_7s, ↓al_7s, ↓av_7s, ↓aq_7s, ↓an_l12, ↓bk_72, ↓Sg_57, ↓kp_72_145, ↓bf1 hc0, ↓bf2 hc0, ↓bf1 hc1, ↓bf2 hc1, ↓an_t hc2, ↓an_rv hc2]
      exact hs
set_option maxHeartbeats 4000000 in
set_option maxRecDepth 100000 in
theorem rl_72_112 {C : px_C} (hn : px_nd (px_tb C)) {h : Nat} (hh : 33 ≤ h) (hC : px_ok C pn_i72 h) {k : Option px_V → px_M → Prop} {x0 : Nat} {x1 : Int32} {x2 : Int32} {x3 : Int32} {x6 : Int64} {x8 : Int64} {x10 : Int32} {σ : px_M} (hs : oW (f_72_112 (px_tb C) σ x0 x1 x2 x3 x6 x8 x10) (Sum.elim (fun s : Int32 × px_M => ∀ (z4 : Option px_V) (z5 : Option px_V) (z6 : Option px_V) (z7 : Option px_V) (z8 : Option px_V) (z9 : Option px_V) (z10 : Option px_V) (z11 : Option px_V), px_W C k 7 [some (.inr (.inr (some x0))), some (.inl x1), some (.inl x2), some (.inl s.1), z4, z5, z6, z7, z8, z9, z10, z11] [] s.2) (fun q => k (some (.inl q.1)) q.2))) : ∀ (z4 : Option px_V) (z5 : Option px_V) (z11 : Option px_V), px_W C k 112 [some (.inr (.inr (some x0))), some (.inl x1), some (.inl x2), some (.inl x3), z4, z5, some (.inr (.inl x6)), none, some (.inr (.inl x8)), none, some (.inl x10), z11] [] σ := by
  intro z4 z5 z11
  refine px_runH (h - 1) ck_72 [] [(115, kp_72_115 (fun y0 y1 y2 y3 y6 y8 y10 y11 τ => y0 = x0 ∧ y1 = x1 ∧ y2 = x2 ∧ oW (f_72_115 (px_tb C) τ y0 y1 y2 y3 y6 y8 y10 y11) (Sum.elim (fun s : Int32 × px_M => ∀ (z4 : Option px_V) (z5 : Option px_V) (z6 : Option px_V) (z7 : Option px_V) (z8 : Option px_V) (z9 : Option px_V) (z10 : Option px_V) (z11 : Option px_V), px_W C k 7 [some (.inr (.inr (some x0))), some (.inl x1), some (.inl x2), some (.inl s.1), z4, z5, z6, z7, z8, z9, z10, z11] [] s.2) (fun q => k (some (.inl q.1)) q.2))))] 80 12 (some .int) rfl rfl hC px_nosp (by omega) (px_cut1 (kq_72_115 (fun y0 y1 y2 y3 y6 y8 y10 y11 τ hq => by obtain ⟨rfl, rfl, rfl, hq⟩ := hq; exact rl_72_115 hn (by omega) hC  hq)) px_nocut) (fun G Jf hG hJf => ?_)
  unfold f_72_112 at hs
  simp only [↓hG, ↓hJf, ↓px_vc, ↓px_ex, ↓px_jp, ↓px_gi, ↓px_gl, ↓px_gr, ↓px_s1, ↓px_s2, ↓px_nl, ↓px_i1, ↓px_l1, ↓r1_s, ↓px_q1, ↓px_i2, ↓px_l2, ↓px_il, ↓px_d0, ↓px_d1, ↓px_d2, ↓px_pop, ↓px_sp, ↓px_rd, ↓px_rf, ↓pn_xf, ↓px_pt, ↓px_sw, ↓pn_SW, ↓px_ma, ↓reduceIte, Nat.reduceEqDiff, Nat.reduceAdd, Nat.reduceSub, ↓Option.toList_some, ↓Option.toList_none, ↓List.cons_append, ↓List.nil_append, ↓kI_s, ↓kJ_s, ↓kN_s, ↓kO_s, ↓kZ_s, ↓kE_s, ↓an_rfl, ↓bt1 n00, ↓bt2 n00, ↓bf1 n10, ↓bf2 n10, ↓an_sz0, ↓an_sz1, ↓an_sz2, ↓an_sz3, ↓an_sz4, ↓an_ri, ↓an_rb0, ↓an_rb1, ↓an_b0, ↓an_b1, true_and, ↓ai_0s, ↓al_0s, ↓av_0s, ↓aq_0s, ↓ai_1s, ↓al_1s, ↓av_1s, ↓aq_1s, ↓ai_2s, ↓al_2s, ↓av_2s, ↓aq_2s, ↓ai_3s, ↓al_3s, ↓av_3s, ↓aq_3s, ↓ai_4s, ↓al_4s, ↓av_4s, ↓aq_4s, ↓ai_5s, ↓al_5s, ↓av_5s, ↓aq_5s, ↓ai_6s, ↓al_6s, ↓av_6s, ↓aq_6s, ↓ai_7s, ↓al_7s, ↓av_7s, ↓aq_7s, ↓an_l12, ↓bk_72, ↓kp_72_115]
  exact hs
set_option maxHeartbeats 4000000 in
set_option maxRecDepth 100000 in
theorem rl_72_83 {C : px_C} (hn : px_nd (px_tb C)) {h : Nat} (hh : 33 ≤ h) (hC : px_ok C pn_i72 h) {k : Option px_V → px_M → Prop} {x0 : Nat} {x1 : Int32} {x2 : Int32} {x3 : Int32} {x6 : Int64} {x8 : Int64} {σ : px_M} (hs : oW (f_72_83 (px_tb C) σ x0 x1 x2 x3 x6 x8) (Sum.elim (fun s : Int32 × px_M => ∀ (z4 : Option px_V) (z5 : Option px_V) (z6 : Option px_V) (z7 : Option px_V) (z8 : Option px_V) (z9 : Option px_V) (z10 : Option px_V) (z11 : Option px_V), px_W C k 7 [some (.inr (.inr (some x0))), some (.inl x1), some (.inl x2), some (.inl s.1), z4, z5, z6, z7, z8, z9, z10, z11] [] s.2) (fun q => k (some (.inl q.1)) q.2))) : ∀ (z4 : Option px_V) (z5 : Option px_V) (z10 : Option px_V) (z11 : Option px_V), px_W C k 83 [some (.inr (.inr (some x0))), some (.inl x1), some (.inl x2), some (.inl x3), z4, z5, some (.inr (.inl x6)), none, some (.inr (.inl x8)), none, z10, z11] [] σ := by
  intro z4 z5 z10 z11
  refine px_runH (h - 1) ck_72 [] [(112, kp_72_112 (fun y0 y1 y2 y3 y6 y8 y10 τ => y0 = x0 ∧ y1 = x1 ∧ y2 = x2 ∧ oW (f_72_112 (px_tb C) τ y0 y1 y2 y3 y6 y8 y10) (Sum.elim (fun s : Int32 × px_M => ∀ (z4 : Option px_V) (z5 : Option px_V) (z6 : Option px_V) (z7 : Option px_V) (z8 : Option px_V) (z9 : Option px_V) (z10 : Option px_V) (z11 : Option px_V), px_W C k 7 [some (.inr (.inr (some x0))), some (.inl x1), some (.inl x2), some (.inl s.1), z4, z5, z6, z7, z8, z9, z10, z11] [] s.2) (fun q => k (some (.inl q.1)) q.2))))] 80 12 (some .int) rfl rfl hC px_nosp (by omega) (px_cut1 (kq_72_112 (fun y0 y1 y2 y3 y6 y8 y10 τ hq => by obtain ⟨rfl, rfl, rfl, hq⟩ := hq; exact rl_72_112 hn (by omega) hC  hq)) px_nocut) (fun G Jf hG hJf => ?_)
  unfold f_72_83 at hs
  simp only [↓hG, ↓hJf, ↓px_vc, ↓px_ex, ↓px_jp, ↓px_gi, ↓px_gl, ↓px_gr, ↓px_s1, ↓px_s2, ↓px_nl, ↓px_i1, ↓px_l1, ↓r1_s, ↓px_q1, ↓px_i2, ↓px_l2, ↓px_il, ↓px_d0, ↓px_d1, ↓px_d2, ↓px_pop, ↓px_sp, ↓px_rd, ↓px_rf, ↓pn_xf, ↓px_pt, ↓px_sw, ↓pn_SW, ↓px_ma, ↓reduceIte, Nat.reduceEqDiff, Nat.reduceAdd, Nat.reduceSub, ↓Option.toList_some, ↓Option.toList_none, ↓List.cons_append, ↓List.nil_append, ↓kI_s, ↓kJ_s, ↓kN_s, ↓kO_s, ↓kZ_s, ↓kE_s, ↓an_rfl, ↓bt1 n00, ↓bt2 n00, ↓bf1 n10, ↓bf2 n10, ↓an_sz0, ↓an_sz1, ↓an_sz2, ↓an_sz3, ↓an_sz4, ↓an_ri, ↓an_rb0, ↓an_rb1, ↓an_b0, ↓an_b1, true_and, ↓ai_0s, ↓al_0s, ↓av_0s, ↓aq_0s, ↓ai_1s, ↓al_1s, ↓av_1s, ↓aq_1s, ↓ai_2s, ↓al_2s, ↓av_2s, ↓aq_2s, ↓ai_3s, ↓al_3s, ↓av_3s, ↓aq_3s, ↓ai_4s, ↓al_4s, ↓av_4s, ↓aq_4s, ↓ai_5s, ↓al_5s, ↓av_5s, ↓aq_5s, ↓ai_6s, ↓al_6s, ↓av_6s, ↓aq_6s, ↓ai_7s, ↓al_7s, ↓av_7s, ↓aq_7s, ↓an_l12, ↓bk_72, ↓kp_72_112]
  exact hs
set_option maxHeartbeats 4000000 in
set_option maxRecDepth 100000 in
theorem rl_72_79 {C : px_C} (hn : px_nd (px_tb C)) {h : Nat} (hh : 33 ≤ h) (hC : px_ok C pn_i72 h) {k : Option px_V → px_M → Prop} {x0 : Nat} {x1 : Int32} {x2 : Int32} {x3 : Int32} {x6 : Int64} {x8 : Int64} {σ : px_M} (hs : oW (f_72_79 (px_tb C) σ x0 x1 x2 x3 x6 x8) (Sum.elim (fun s : Int32 × px_M => ∀ (z4 : Option px_V) (z5 : Option px_V) (z6 : Option px_V) (z7 : Option px_V) (z8 : Option px_V) (z9 : Option px_V) (z10 : Option px_V) (z11 : Option px_V), px_W C k 7 [some (.inr (.inr (some x0))), some (.inl x1), some (.inl x2), some (.inl s.1), z4, z5, z6, z7, z8, z9, z10, z11] [] s.2) (fun q => k (some (.inl q.1)) q.2))) : ∀ (z4 : Option px_V) (z5 : Option px_V) (z10 : Option px_V) (z11 : Option px_V), px_W C k 79 [some (.inr (.inr (some x0))), some (.inl x1), some (.inl x2), some (.inl x3), z4, z5, some (.inr (.inl x6)), none, some (.inr (.inl x8)), none, z10, z11] [] σ := by
  intro z4 z5 z10 z11
  refine px_runH (h - 1) ck_72 [(14, Sg_14 (f_14 (px_tb C))), (31, Sg_31 (f_31 (px_tb C)))] [(112, kp_72_112 (fun y0 y1 y2 y3 y6 y8 y10 τ => y0 = x0 ∧ y1 = x1 ∧ y2 = x2 ∧ oW (f_72_112 (px_tb C) τ y0 y1 y2 y3 y6 y8 y10) (Sum.elim (fun s : Int32 × px_M => ∀ (z4 : Option px_V) (z5 : Option px_V) (z6 : Option px_V) (z7 : Option px_V) (z8 : Option px_V) (z9 : Option px_V) (z10 : Option px_V) (z11 : Option px_V), px_W C k 7 [some (.inr (.inr (some x0))), some (.inl x1), some (.inl x2), some (.inl s.1), z4, z5, z6, z7, z8, z9, z10, z11] [] s.2) (fun q => k (some (.inl q.1)) q.2)))), (115, kp_72_115 (fun y0 y1 y2 y3 y6 y8 y10 y11 τ => y0 = x0 ∧ y1 = x1 ∧ y2 = x2 ∧ oW (f_72_115 (px_tb C) τ y0 y1 y2 y3 y6 y8 y10 y11) (Sum.elim (fun s : Int32 × px_M => ∀ (z4 : Option px_V) (z5 : Option px_V) (z6 : Option px_V) (z7 : Option px_V) (z8 : Option px_V) (z9 : Option px_V) (z10 : Option px_V) (z11 : Option px_V), px_W C k 7 [some (.inr (.inr (some x0))), some (.inl x1), some (.inl x2), some (.inl s.1), z4, z5, z6, z7, z8, z9, z10, z11] [] s.2) (fun q => k (some (.inl q.1)) q.2))))] 80 12 (some .int) rfl rfl hC (px_sp1 (mf_14 hn (by omega)) (px_sp1 (mf_31 hn (by omega)) px_nosp)) (by omega) (px_cut1 (kq_72_112 (fun y0 y1 y2 y3 y6 y8 y10 τ hq => by obtain ⟨rfl, rfl, rfl, hq⟩ := hq; exact rl_72_112 hn (by omega) hC  hq)) (px_cut1 (kq_72_115 (fun y0 y1 y2 y3 y6 y8 y10 y11 τ hq => by obtain ⟨rfl, rfl, rfl, hq⟩ := hq; exact rl_72_115 hn (by omega) hC  hq)) px_nocut)) (fun G Jf hG hJf => ?_)
  unfold f_72_79 at hs
  obtain ⟨hc0, hs⟩ := oW_gx hs
  obtain ⟨r1, hc1, hs⟩ := oW_bx hs
  obtain ⟨r2, hc2, hs⟩ := oW_bx hs
  by_cases hc3 : r2 = nI 0
  · replace hs := oW_t hs hc3
    simp only [↓hG, ↓hJf, ↓px_vc, ↓px_ex, ↓px_jp, ↓px_gi, ↓px_gl, ↓px_gr, ↓px_s1, ↓px_s2, ↓px_nl, ↓px_i1, ↓px_l1, ↓r1_s, ↓px_q1, ↓px_i2, ↓px_l2, ↓px_il, ↓px_d0, ↓px_d1, ↓px_d2, ↓px_pop, ↓px_sp, ↓px_rd, ↓px_rf, ↓pn_xf, ↓px_pt, ↓px_sw, ↓pn_SW, ↓px_ma, ↓reduceIte, Nat.reduceEqDiff, Nat.reduceAdd, Nat.reduceSub, ↓Option.toList_some, ↓Option.toList_none, ↓List.cons_append, ↓List.nil_append, ↓kI_s, ↓kJ_s, ↓kN_s, ↓kO_s, ↓kZ_s, ↓kE_s, ↓an_rfl, ↓bt1 n00, ↓bt2 n00, ↓bf1 n10, ↓bf2 n10, ↓an_sz0, ↓an_sz1, ↓an_sz2, ↓an_sz3, ↓an_sz4, ↓an_ri, ↓an_rb0, ↓an_rb1, ↓an_b0, ↓an_b1, true_and, ↓ai_0s, ↓al_0s, ↓av_0s, ↓aq_0s, ↓ai_1s, ↓al_1s, ↓av_1s, ↓aq_1s, ↓ai_2s, ↓al_2s, ↓av_2s, ↓aq_2s, ↓ai_3s, ↓al_3s, ↓av_3s, ↓aq_3s, ↓ai_4s, ↓al_4s, ↓av_4s, ↓aq_4s, ↓ai_5s, ↓al_5s, ↓av_5s, ↓aq_5s, ↓ai_6s, ↓al_6s, ↓av_6s, ↓aq_6s, ↓ai_7s, ↓al_7s, ↓av_7s, ↓aq_7s, ↓an_l12, ↓bk_72, ↓Sg_14, ↓Sg_31, ↓kp_72_112, ↓kp_72_115, ↓an_t hc0, ↓an_rv hc0, ↓oW_e hc1, ↓oW_e hc2, ↓bt1 hc3, ↓bt2 hc3]
    exact hs
  · replace hs := oW_f hs hc3
    simp only [↓hG, ↓hJf, ↓px_vc, ↓px_ex, ↓px_jp, ↓px_gi, ↓px_gl, ↓px_gr, ↓px_s1, ↓px_s2, ↓px_nl, ↓px_i1, ↓px_l1, ↓r1_s, ↓px_q1, ↓px_i2, ↓px_l2, ↓px_il, ↓px_d0, ↓px_d1, ↓px_d2, ↓px_pop, ↓px_sp, ↓px_rd, ↓px_rf, ↓pn_xf, ↓px_pt, ↓px_sw, ↓pn_SW, ↓px_ma, ↓reduceIte, Nat.reduceEqDiff, Nat.reduceAdd, Nat.reduceSub, ↓Option.toList_some, ↓Option.toList_none, ↓List.cons_append, ↓List.nil_append, ↓kI_s, ↓kJ_s, ↓kN_s, ↓kO_s, ↓kZ_s, ↓kE_s, ↓an_rfl, ↓bt1 n00, ↓bt2 n00, ↓bf1 n10, ↓bf2 n10, ↓an_sz0, ↓an_sz1, ↓an_sz2, ↓an_sz3, ↓an_sz4, ↓an_ri, ↓an_rb0, ↓an_rb1, ↓an_b0, ↓an_b1, true_and, ↓ai_0s, ↓al_0s, ↓av_0s, ↓aq_0s, ↓ai_1s, ↓al_1s, ↓av_1s, ↓aq_1s, ↓ai_2s, ↓al_2s, ↓av_2s, ↓aq_2s, ↓ai_3s, ↓al_3s, ↓av_3s, ↓aq_3s, ↓ai_4s, ↓al_4s, ↓av_4s, ↓aq_4s, ↓ai_5s, ↓al_5s, ↓av_5s, ↓aq_5s, ↓ai_6s, ↓al_6s, ↓av_6s, ↓aq_6s, ↓ai_7s, ↓al_7s, ↓av_7s, ↓aq_7s, ↓an_l12, ↓bk_72, ↓Sg_14, ↓Sg_31, ↓kp_72_112, ↓kp_72_115, ↓an_t hc0, ↓an_rv hc0, ↓oW_e hc1, ↓oW_e hc2, ↓bf1 hc3, ↓bf2 hc3]
    exact hs
set_option maxHeartbeats 4000000 in
set_option maxRecDepth 100000 in
theorem rl_72_46 {C : px_C} (hn : px_nd (px_tb C)) {h : Nat} (hh : 33 ≤ h) (hC : px_ok C pn_i72 h) {k : Option px_V → px_M → Prop} {x0 : Nat} {x1 : Int32} {x2 : Int32} {x3 : Int32} {x4 : Int64} {x6 : Int64} {x8 : Int64} {σ : px_M} (hs : oW (f_72_46 (px_tb C) σ x0 x1 x2 x3 x4 x6 x8) (Sum.elim (fun s : Int32 × px_M => ∀ (z4 : Option px_V) (z5 : Option px_V) (z6 : Option px_V) (z7 : Option px_V) (z8 : Option px_V) (z9 : Option px_V) (z10 : Option px_V) (z11 : Option px_V), px_W C k 7 [some (.inr (.inr (some x0))), some (.inl x1), some (.inl x2), some (.inl s.1), z4, z5, z6, z7, z8, z9, z10, z11] [] s.2) (fun q => k (some (.inl q.1)) q.2))) : ∀ (z10 : Option px_V) (z11 : Option px_V), px_W C k 46 [some (.inr (.inr (some x0))), some (.inl x1), some (.inl x2), some (.inl x3), some (.inr (.inl x4)), none, some (.inr (.inl x6)), none, some (.inr (.inl x8)), none, z10, z11] [] σ := by
  intro z10 z11
  refine px_runH (h - 1) ck_72 [(30, Sg_30 (f_30 (px_tb C)))] [(79, kp_72_79 (fun y0 y1 y2 y3 y6 y8 τ => y0 = x0 ∧ y1 = x1 ∧ y2 = x2 ∧ oW (f_72_79 (px_tb C) τ y0 y1 y2 y3 y6 y8) (Sum.elim (fun s : Int32 × px_M => ∀ (z4 : Option px_V) (z5 : Option px_V) (z6 : Option px_V) (z7 : Option px_V) (z8 : Option px_V) (z9 : Option px_V) (z10 : Option px_V) (z11 : Option px_V), px_W C k 7 [some (.inr (.inr (some x0))), some (.inl x1), some (.inl x2), some (.inl s.1), z4, z5, z6, z7, z8, z9, z10, z11] [] s.2) (fun q => k (some (.inl q.1)) q.2)))), (83, kp_72_83 (fun y0 y1 y2 y3 y6 y8 τ => y0 = x0 ∧ y1 = x1 ∧ y2 = x2 ∧ oW (f_72_83 (px_tb C) τ y0 y1 y2 y3 y6 y8) (Sum.elim (fun s : Int32 × px_M => ∀ (z4 : Option px_V) (z5 : Option px_V) (z6 : Option px_V) (z7 : Option px_V) (z8 : Option px_V) (z9 : Option px_V) (z10 : Option px_V) (z11 : Option px_V), px_W C k 7 [some (.inr (.inr (some x0))), some (.inl x1), some (.inl x2), some (.inl s.1), z4, z5, z6, z7, z8, z9, z10, z11] [] s.2) (fun q => k (some (.inl q.1)) q.2))))] 80 12 (some .int) rfl rfl hC (px_sp1 (mf_30 hn (by omega)) px_nosp) (by omega) (px_cut1 (kq_72_79 (fun y0 y1 y2 y3 y6 y8 τ hq => by obtain ⟨rfl, rfl, rfl, hq⟩ := hq; exact rl_72_79 hn (by omega) hC  hq)) (px_cut1 (kq_72_83 (fun y0 y1 y2 y3 y6 y8 τ hq => by obtain ⟨rfl, rfl, rfl, hq⟩ := hq; exact rl_72_83 hn (by omega) hC  hq)) px_nocut)) (fun G Jf hG hJf => ?_)
  unfold f_72_46 at hs
  by_cases hc0 : x4 < (lN 0)
  · replace hs := oW_t hs hc0
    simp only [↓hG, ↓hJf, ↓px_vc, ↓px_ex, ↓px_jp, ↓px_gi, ↓px_gl, ↓px_gr, ↓px_s1, ↓px_s2, ↓px_nl, ↓px_i1, ↓px_l1, ↓r1_s, ↓px_q1, ↓px_i2, ↓px_l2, ↓px_il, ↓px_d0, ↓px_d1, ↓px_d2, ↓px_pop, ↓px_sp, ↓px_rd, ↓px_rf, ↓pn_xf, ↓px_pt, ↓px_sw, ↓pn_SW, ↓px_ma, ↓reduceIte, Nat.reduceEqDiff, Nat.reduceAdd, Nat.reduceSub, ↓Option.toList_some, ↓Option.toList_none, ↓List.cons_append, ↓List.nil_append, ↓kI_s, ↓kJ_s, ↓kN_s, ↓kO_s, ↓kZ_s, ↓kE_s, ↓an_rfl, ↓bt1 n00, ↓bt2 n00, ↓bf1 n10, ↓bf2 n10, ↓an_sz0, ↓an_sz1, ↓an_sz2, ↓an_sz3, ↓an_sz4, ↓an_ri, ↓an_rb0, ↓an_rb1, ↓an_b0, ↓an_b1, true_and, ↓ai_0s, ↓al_0s, ↓av_0s, ↓aq_0s, ↓ai_1s, ↓al_1s, ↓av_1s, ↓aq_1s, ↓ai_2s, ↓al_2s, ↓av_2s, ↓aq_2s, ↓ai_3s, ↓al_3s, ↓av_3s, ↓aq_3s, ↓ai_4s, ↓al_4s, ↓av_4s, ↓aq_4s, ↓ai_5s, ↓al_5s, ↓av_5s, ↓aq_5s, ↓ai_6s, ↓al_6s, ↓av_6s, ↓aq_6s, ↓ai_7s, ↓al_7s, ↓av_7s, ↓aq_7s, ↓an_l12, ↓bk_72, ↓Sg_30, ↓kp_72_79, ↓kp_72_83, ↓bt1 ((lc_lt _ _).mpr hc0), ↓bt2 ((lc_lt _ _).mpr hc0)]
    exact hs
  · replace hs := oW_f hs hc0
    obtain ⟨hc1, hs⟩ := oW_gx hs
    obtain ⟨r1, hc2, hs⟩ := oW_bx hs
    by_cases hc3 : r1 = nI 0
    · replace hs := oW_t hs hc3
      simp only [↓hG, ↓hJf, ↓px_vc, ↓px_ex, ↓px_jp, ↓px_gi, ↓px_gl, ↓px_gr, ↓px_s1, ↓px_s2, ↓px_nl, ↓px_i1, ↓px_l1, ↓r1_s, ↓px_q1, ↓px_i2, ↓px_l2, ↓px_il, ↓px_d0, ↓px_d1, ↓px_d2, ↓px_pop, ↓px_sp, ↓px_rd, ↓px_rf, ↓pn_xf, ↓px_pt, ↓px_sw, ↓pn_SW, ↓px_ma, ↓reduceIte, Nat.reduceEqDiff, Nat.reduceAdd, Nat.reduceSub, ↓Option.toList_some, ↓Option.toList_none, ↓List.cons_append, ↓List.nil_append, ↓kI_s, ↓kJ_s, ↓kN_s, ↓kO_s, ↓kZ_s, ↓kE_s, ↓an_rfl, ↓bt1 n00, ↓bt2 n00, ↓bf1 n10, ↓bf2 n10, ↓an_sz0, ↓an_sz1, ↓an_sz2, ↓an_sz3, ↓an_sz4, ↓an_ri, ↓an_rb0, ↓an_rb1, ↓an_b0, ↓an_b1, true_and, ↓ai_0s, ↓al_0s, ↓av_0s, ↓aq_0s, ↓ai_1s, ↓al_1s, ↓av_1s, ↓aq_1s, ↓ai_2s, ↓al_2s, ↓av_2s, ↓aq_2s, ↓ai_3s, ↓al_3s, ↓av_3s, ↓aq_3s, ↓ai_4s, ↓al_4s, ↓av_4s, ↓aq_4s, ↓ai_5s, ↓al_5s, ↓av_5s, ↓aq_5s, ↓ai_6s, ↓al_6s, ↓av_6s, ↓aq_6s, ↓ai_7s, ↓al_7s, ↓av_7s, ↓aq_7s, ↓an_l12, ↓bk_72, ↓Sg_30, ↓kp_72_79, ↓kp_72_83, ↓bf1 (fun q => hc0 ((lc_lt _ _).mp q)), ↓bf2 (fun q => hc0 ((lc_lt _ _).mp q)), ↓an_t hc1, ↓an_rv hc1, ↓oW_e hc2, ↓bt1 hc3, ↓bt2 hc3]
      exact hs
    · replace hs := oW_f hs hc3
      obtain ⟨r2, hc4, hs⟩ := oW_bx hs
      by_cases hc5 : r2 = nI 0
      · replace hs := oW_t hs hc5
        simp only [↓hG, ↓hJf, ↓px_vc, ↓px_ex, ↓px_jp, ↓px_gi, ↓px_gl, ↓px_gr, ↓px_s1, ↓px_s2, ↓px_nl, ↓px_i1, ↓px_l1, ↓r1_s, ↓px_q1, ↓px_i2, ↓px_l2, ↓px_il, ↓px_d0, ↓px_d1, ↓px_d2, ↓px_pop, ↓px_sp, ↓px_rd, ↓px_rf, ↓pn_xf, ↓px_pt, ↓px_sw, ↓pn_SW, ↓px_ma, ↓reduceIte, Nat.reduceEqDiff, Nat.reduceAdd, Nat.reduceSub, ↓Option.toList_some, ↓Option.toList_none, ↓List.cons_append, ↓List.nil_append, ↓kI_s, ↓kJ_s, ↓kN_s, ↓kO_s, ↓kZ_s, ↓kE_s, ↓an_rfl, ↓bt1 n00, ↓bt2 n00, ↓bf1 n10, ↓bf2 n10, ↓an_sz0, ↓an_sz1, ↓an_sz2, ↓an_sz3, ↓an_sz4, ↓an_ri, ↓an_rb0, ↓an_rb1, ↓an_b0, ↓an_b1, true_and, ↓ai_0s, ↓al_0s, ↓av_0s, ↓aq_0s, ↓ai_1s, ↓al_1s, ↓av_1s, ↓aq_1s, ↓ai_2s, ↓al_2s, ↓av_2s, ↓aq_2s, ↓ai_3s, ↓al_3s, ↓av_3s, ↓aq_3s, ↓ai_4s, ↓al_4s, ↓av_4s, ↓aq_4s, ↓ai_5s, ↓al_5s, ↓av_5s, ↓aq_5s, ↓ai_6s, ↓al_6s, ↓av_6s, ↓aq_6s, ↓ai_7s, ↓al_7s, ↓av_7s, ↓aq_7s, ↓an_l12, ↓bk_72, ↓Sg_30, ↓kp_72_79, ↓kp_72_83, ↓bf1 (fun q => hc0 ((lc_lt _ _).mp q)), ↓bf2 (fun q => hc0 ((lc_lt _ _).mp q)), ↓an_t hc1, ↓an_rv hc1, ↓oW_e hc2, ↓bf1 hc3, ↓bf2 hc3, ↓oW_e hc4, ↓bt1 hc5, ↓bt2 hc5]
        exact hs
      · replace hs := oW_f hs hc5
        by_cases hc6 : x6 = x8
        · replace hs := oW_t hs hc6
          simp only [↓hG, ↓hJf, ↓px_vc, ↓px_ex, ↓px_jp, ↓px_gi, ↓px_gl, ↓px_gr, ↓px_s1, ↓px_s2, ↓px_nl, ↓px_i1, ↓px_l1, ↓r1_s, ↓px_q1, ↓px_i2, ↓px_l2, ↓px_il, ↓px_d0, ↓px_d1, ↓px_d2, ↓px_pop, ↓px_sp, ↓px_rd, ↓px_rf, ↓pn_xf, ↓px_pt, ↓px_sw, ↓pn_SW, ↓px_ma, ↓reduceIte, Nat.reduceEqDiff, Nat.reduceAdd, Nat.reduceSub, ↓Option.toList_some, ↓Option.toList_none, ↓List.cons_append, ↓List.nil_append, ↓kI_s, ↓kJ_s, ↓kN_s, ↓kO_s, ↓kZ_s, ↓kE_s, ↓an_rfl, ↓bt1 n00, ↓bt2 n00, ↓bf1 n10, ↓bf2 n10, ↓an_sz0, ↓an_sz1, ↓an_sz2, ↓an_sz3, ↓an_sz4, ↓an_ri, ↓an_rb0, ↓an_rb1, ↓an_b0, ↓an_b1, true_and, ↓ai_0s, ↓al_0s, ↓av_0s, ↓aq_0s, ↓ai_1s, ↓al_1s, ↓av_1s, ↓aq_1s, ↓ai_2s, ↓al_2s, ↓av_2s, ↓aq_2s, ↓ai_3s, ↓al_3s, ↓av_3s, ↓aq_3s, ↓ai_4s, ↓al_4s, ↓av_4s, ↓aq_4s, ↓ai_5s, ↓al_5s, ↓av_5s, ↓aq_5s, ↓ai_6s, ↓al_6s, ↓av_6s, ↓aq_6s, ↓ai_7s, ↓al_7s, ↓av_7s, ↓aq_7s, ↓an_l12, ↓bk_72, ↓Sg_30, ↓kp_72_79, ↓kp_72_83, ↓bf1 (fun q => hc0 ((lc_lt _ _).mp q)), ↓bf2 (fun q => hc0 ((lc_lt _ _).mp q)), ↓an_t hc1, ↓an_rv hc1, ↓oW_e hc2, ↓bf1 hc3, ↓bf2 hc3, ↓oW_e hc4, ↓bf1 hc5, ↓bf2 hc5, ↓bt1 ((lc_eq _ _).mpr hc6), ↓bt2 ((lc_eq _ _).mpr hc6)]
          exact hs
        · replace hs := oW_f hs hc6
          simp only [↓hG, ↓hJf, ↓px_vc, ↓px_ex, ↓px_jp, ↓px_gi, ↓px_gl, ↓px_gr, ↓px_s1, ↓px_s2, ↓px_nl, ↓px_i1, ↓px_l1, ↓r1_s, ↓px_q1, ↓px_i2, ↓px_l2, ↓px_il, ↓px_d0, ↓px_d1, ↓px_d2, ↓px_pop, ↓px_sp, ↓px_rd, ↓px_rf, ↓pn_xf, ↓px_pt, ↓px_sw, ↓pn_SW, ↓px_ma, ↓reduceIte, Nat.reduceEqDiff, Nat.reduceAdd, Nat.reduceSub, ↓Option.toList_some, ↓Option.toList_none, ↓List.cons_append, ↓List.nil_append, ↓kI_s, ↓kJ_s, ↓kN_s, ↓kO_s, ↓kZ_s, ↓kE_s, ↓an_rfl, ↓bt1 n00, ↓bt2 n00, ↓bf1 n10, ↓bf2 n10, ↓an_sz0, ↓an_sz1, ↓an_sz2, ↓an_sz3, ↓an_sz4, ↓an_ri, ↓an_rb0, ↓an_rb1, ↓an_b0, ↓an_b1, true_and, ↓ai_0s, ↓al_0s, ↓av_0s, ↓aq_0s, ↓ai_1s, ↓al_1s, ↓av_1s, ↓aq_1s, ↓ai_2s, ↓al_2s, ↓av_2s, ↓aq_2s, ↓ai_3s, ↓al_3s, ↓av_3s, ↓aq_3s, ↓ai_4s, ↓al_4s, ↓av_4s, ↓aq_4s, ↓ai_5s, ↓al_5s, ↓av_5s, ↓aq_5s, ↓ai_6s, ↓al_6s, ↓av_6s, ↓aq_6s, ↓ai_7s, ↓al_7s, ↓av_7s, ↓aq_7s, ↓an_l12, ↓bk_72, ↓Sg_30, ↓kp_72_79, ↓kp_72_83, ↓bf1 (fun q => hc0 ((lc_lt _ _).mp q)), ↓bf2 (fun q => hc0 ((lc_lt _ _).mp q)), ↓an_t hc1, ↓an_rv hc1, ↓oW_e hc2, ↓bf1 hc3, ↓bf2 hc3, ↓oW_e hc4, ↓bf1 hc5, ↓bf2 hc5, ↓bf1 (fun q => hc6 ((lc_eq _ _).mp q)), ↓bf2 (fun q => hc6 ((lc_eq _ _).mp q))]
          exact hs
set_option maxHeartbeats 4000000 in
set_option maxRecDepth 100000 in
theorem rl_72_38 {C : px_C} (hn : px_nd (px_tb C)) {h : Nat} (hh : 33 ≤ h) (hC : px_ok C pn_i72 h) {k : Option px_V → px_M → Prop} {x0 : Nat} {x1 : Int32} {x2 : Int32} {x3 : Int32} {x4 : Int64} {x6 : Int64} {σ : px_M} (hs : oW (f_72_38 (px_tb C) σ x0 x1 x2 x3 x4 x6) (Sum.elim (fun s : Int32 × px_M => ∀ (z4 : Option px_V) (z5 : Option px_V) (z6 : Option px_V) (z7 : Option px_V) (z8 : Option px_V) (z9 : Option px_V) (z10 : Option px_V) (z11 : Option px_V), px_W C k 7 [some (.inr (.inr (some x0))), some (.inl x1), some (.inl x2), some (.inl s.1), z4, z5, z6, z7, z8, z9, z10, z11] [] s.2) (fun q => k (some (.inl q.1)) q.2))) : ∀ (z8 : Option px_V) (z9 : Option px_V) (z10 : Option px_V) (z11 : Option px_V), px_W C k 38 [some (.inr (.inr (some x0))), some (.inl x1), some (.inl x2), some (.inl x3), some (.inr (.inl x4)), none, some (.inr (.inl x6)), none, z8, z9, z10, z11] [] σ := by
  intro z8 z9 z10 z11
  refine px_runH (h - 1) ck_72 [] [(46, kp_72_46 (fun y0 y1 y2 y3 y4 y6 y8 τ => y0 = x0 ∧ y1 = x1 ∧ y2 = x2 ∧ oW (f_72_46 (px_tb C) τ y0 y1 y2 y3 y4 y6 y8) (Sum.elim (fun s : Int32 × px_M => ∀ (z4 : Option px_V) (z5 : Option px_V) (z6 : Option px_V) (z7 : Option px_V) (z8 : Option px_V) (z9 : Option px_V) (z10 : Option px_V) (z11 : Option px_V), px_W C k 7 [some (.inr (.inr (some x0))), some (.inl x1), some (.inl x2), some (.inl s.1), z4, z5, z6, z7, z8, z9, z10, z11] [] s.2) (fun q => k (some (.inl q.1)) q.2))))] 80 12 (some .int) rfl rfl hC px_nosp (by omega) (px_cut1 (kq_72_46 (fun y0 y1 y2 y3 y4 y6 y8 τ hq => by obtain ⟨rfl, rfl, rfl, hq⟩ := hq; exact rl_72_46 hn (by omega) hC  hq)) px_nocut) (fun G Jf hG hJf => ?_)
  unfold f_72_38 at hs
  obtain ⟨hc0, hs⟩ := oW_gx hs
  simp only [↓hG, ↓hJf, ↓px_vc, ↓px_ex, ↓px_jp, ↓px_gi, ↓px_gl, ↓px_gr, ↓px_s1, ↓px_s2, ↓px_nl, ↓px_i1, ↓px_l1, ↓r1_s, ↓px_q1, ↓px_i2, ↓px_l2, ↓px_il, ↓px_d0, ↓px_d1, ↓px_d2, ↓px_pop, ↓px_sp, ↓px_rd, ↓px_rf, ↓pn_xf, ↓px_pt, ↓px_sw, ↓pn_SW, ↓px_ma, ↓reduceIte, Nat.reduceEqDiff, Nat.reduceAdd, Nat.reduceSub, ↓Option.toList_some, ↓Option.toList_none, ↓List.cons_append, ↓List.nil_append, ↓kI_s, ↓kJ_s, ↓kN_s, ↓kO_s, ↓kZ_s, ↓kE_s, ↓an_rfl, ↓bt1 n00, ↓bt2 n00, ↓bf1 n10, ↓bf2 n10, ↓an_sz0, ↓an_sz1, ↓an_sz2, ↓an_sz3, ↓an_sz4, ↓an_ri, ↓an_rb0, ↓an_rb1, ↓an_b0, ↓an_b1, true_and, ↓ai_0s, ↓al_0s, ↓av_0s, ↓aq_0s, ↓ai_1s, ↓al_1s, ↓av_1s, ↓aq_1s, ↓ai_2s, ↓al_2s, ↓av_2s, ↓aq_2s, ↓ai_3s, ↓al_3s, ↓av_3s, ↓aq_3s, ↓ai_4s, ↓al_4s, ↓av_4s, ↓aq_4s, ↓ai_5s, ↓al_5s, ↓av_5s, ↓aq_5s, ↓ai_6s, ↓al_6s, ↓av_6s, ↓aq_6s, ↓ai_7s, ↓al_7s, ↓av_7s, ↓aq_7s, ↓an_l12, ↓bk_72, ↓kp_72_46, ↓an_t hc0]
  exact hs
set_option maxHeartbeats 4000000 in
set_option maxRecDepth 100000 in
theorem rl_72_7 {C : px_C} (hn : px_nd (px_tb C)) {h : Nat} (hh : 33 ≤ h) (hC : px_ok C pn_i72 h) {k : Option px_V → px_M → Prop} {x0 : Nat} {x1 : Int32} {x2 : Int32} : ∀ s : Int32 × px_M, oW (f_72_7 (px_tb C) x0 x1 x2 s.1 s.2) (fun q => k (some (.inl q.1)) q.2) → (fun s : Int32 × px_M => ∀ (z4 : Option px_V) (z5 : Option px_V) (z6 : Option px_V) (z7 : Option px_V) (z8 : Option px_V) (z9 : Option px_V) (z10 : Option px_V) (z11 : Option px_V), px_W C k 7 [some (.inr (.inr (some x0))), some (.inl x1), some (.inl x2), some (.inl s.1), z4, z5, z6, z7, z8, z9, z10, z11] [] s.2) s := by
  intro s h0
  refine lpO_sound (P := (fun s : Int32 × px_M => ∀ (z4 : Option px_V) (z5 : Option px_V) (z6 : Option px_V) (z7 : Option px_V) (z8 : Option px_V) (z9 : Option px_V) (z10 : Option px_V) (z11 : Option px_V), px_W C k 7 [some (.inr (.inr (some x0))), some (.inl x1), some (.inl x2), some (.inl s.1), z4, z5, z6, z7, z8, z9, z10, z11] [] s.2)) (fun s hs => ?_) h0
  obtain ⟨x3, σ⟩ := s
  intro z4 z5 z6 z7 z8 z9 z10 z11
  refine px_runH (h - 1) ck_72 [] [(38, kp_72_38 (fun y0 y1 y2 y3 y4 y6 τ => y0 = x0 ∧ y1 = x1 ∧ y2 = x2 ∧ oW (f_72_38 (px_tb C) τ y0 y1 y2 y3 y4 y6) (Sum.elim (fun s : Int32 × px_M => ∀ (z4 : Option px_V) (z5 : Option px_V) (z6 : Option px_V) (z7 : Option px_V) (z8 : Option px_V) (z9 : Option px_V) (z10 : Option px_V) (z11 : Option px_V), px_W C k 7 [some (.inr (.inr (some x0))), some (.inl x1), some (.inl x2), some (.inl s.1), z4, z5, z6, z7, z8, z9, z10, z11] [] s.2) (fun q => k (some (.inl q.1)) q.2))))] 80 12 (some .int) rfl rfl hC px_nosp (by omega) (px_cut1 (kq_72_38 (fun y0 y1 y2 y3 y4 y6 τ hq => by obtain ⟨rfl, rfl, rfl, hq⟩ := hq; exact rl_72_38 hn (by omega) hC  hq)) px_nocut) (fun G Jf hG hJf => ?_)
  replace hs : oW (F_72_7 (px_tb C) x0 x1 x2 x3 σ) _ := hs
  unfold F_72_7 at hs
  obtain ⟨hc0, hs⟩ := oW_gx hs
  obtain ⟨n1, hc1, hs⟩ := oW_bx hs
  obtain ⟨t2, l3, hc2, hs⟩ := oW_ax hs
  obtain ⟨hc3, hs⟩ := oW_gx hs
  obtain ⟨hc4, hs⟩ := oW_gx hs
  by_cases hc5 : (px_av t2 σ n1 (x1).toNatClampNeg) ≤ x3
  · replace hs := oW_t hs hc5
    simp only [↓hG, ↓hJf, ↓px_vc, ↓px_ex, ↓px_jp, ↓px_gi, ↓px_gl, ↓px_gr, ↓px_s1, ↓px_s2, ↓px_nl, ↓px_i1, ↓px_l1, ↓r1_s, ↓px_q1, ↓px_i2, ↓px_l2, ↓px_il, ↓px_d0, ↓px_d1, ↓px_d2, ↓px_pop, ↓px_sp, ↓px_rd, ↓px_rf, ↓pn_xf, ↓px_pt, ↓px_sw, ↓pn_SW, ↓px_ma, ↓reduceIte, Nat.reduceEqDiff, Nat.reduceAdd, Nat.reduceSub, ↓Option.toList_some, ↓Option.toList_none, ↓List.cons_append, ↓List.nil_append, ↓kI_s, ↓kJ_s, ↓kN_s, ↓kO_s, ↓kZ_s, ↓kE_s, ↓an_rfl, ↓bt1 n00, ↓bt2 n00, ↓bf1 n10, ↓bf2 n10, ↓an_sz0, ↓an_sz1, ↓an_sz2, ↓an_sz3, ↓an_sz4, ↓an_ri, ↓an_rb0, ↓an_rb1, ↓an_b0, ↓an_b1, true_and, ↓ai_0s, ↓al_0s, ↓av_0s, ↓aq_0s, ↓ai_1s, ↓al_1s, ↓av_1s, ↓aq_1s, ↓ai_2s, ↓al_2s, ↓av_2s, ↓aq_2s, ↓ai_3s, ↓al_3s, ↓av_3s, ↓aq_3s, ↓ai_4s, ↓al_4s, ↓av_4s, ↓aq_4s, ↓ai_5s, ↓al_5s, ↓av_5s, ↓aq_5s, ↓ai_6s, ↓al_6s, ↓av_6s, ↓aq_6s, ↓ai_7s, ↓al_7s, ↓av_7s, ↓aq_7s, ↓an_l12, ↓bk_72, ↓kp_72_38, ↓an_t hc0, ↓an_rv hc0, ↓r1_e hc1, ↓av_0e hc1, ↓av_1e hc1, ↓av_2e hc1, ↓av_3e hc1, ↓ar_e hc2, ↓an_t hc3, ↓an_t hc4, ↓bt1 hc5, ↓bt2 hc5]
    rw [oW_some] at hs
    exact hs
  · replace hs := oW_f hs hc5
    obtain ⟨n4, hc6, hs⟩ := oW_bx hs
    obtain ⟨t5, l6, hc7, hs⟩ := oW_ax hs
    obtain ⟨hc8, hs⟩ := oW_gx hs
    obtain ⟨hc9, hs⟩ := oW_gx hs
    obtain ⟨hc10, hs⟩ := oW_gx hs
    simp only [↓hG, ↓hJf, ↓px_vc, ↓px_ex, ↓px_jp, ↓px_gi, ↓px_gl, ↓px_gr, ↓px_s1, ↓px_s2, ↓px_nl, ↓px_i1, ↓px_l1, ↓r1_s, ↓px_q1, ↓px_i2, ↓px_l2, ↓px_il, ↓px_d0, ↓px_d1, ↓px_d2, ↓px_pop, ↓px_sp, ↓px_rd, ↓px_rf, ↓pn_xf, ↓px_pt, ↓px_sw, ↓pn_SW, ↓px_ma, ↓reduceIte, Nat.reduceEqDiff, Nat.reduceAdd, Nat.reduceSub, ↓Option.toList_some, ↓Option.toList_none, ↓List.cons_append, ↓List.nil_append, ↓kI_s, ↓kJ_s, ↓kN_s, ↓kO_s, ↓kZ_s, ↓kE_s, ↓an_rfl, ↓bt1 n00, ↓bt2 n00, ↓bf1 n10, ↓bf2 n10, ↓an_sz0, ↓an_sz1, ↓an_sz2, ↓an_sz3, ↓an_sz4, ↓an_ri, ↓an_rb0, ↓an_rb1, ↓an_b0, ↓an_b1, true_and, ↓ai_0s, ↓al_0s, ↓av_0s, ↓aq_0s, ↓ai_1s, ↓al_1s, ↓av_1s, ↓aq_1s, ↓ai_2s, ↓al_2s, ↓av_2s, ↓aq_2s, ↓ai_3s, ↓al_3s, ↓av_3s, ↓aq_3s, ↓ai_4s, ↓al_4s, ↓av_4s, ↓aq_4s, ↓ai_5s, ↓al_5s, ↓av_5s, ↓aq_5s, ↓ai_6s, ↓al_6s, ↓av_6s, ↓aq_6s, ↓ai_7s, ↓al_7s, ↓av_7s, ↓aq_7s, ↓an_l12, ↓bk_72, ↓kp_72_38, ↓an_t hc0, ↓an_rv hc0, ↓r1_e hc1, ↓av_0e hc1, ↓av_1e hc1, ↓av_2e hc1, ↓av_3e hc1, ↓ar_e hc2, ↓an_t hc3, ↓an_t hc4, ↓bf1 hc5, ↓bf2 hc5, ↓r1_e hc6, ↓av_0e hc6, ↓av_1e hc6, ↓av_2e hc6, ↓av_3e hc6, ↓ar_e hc7, ↓an_t hc8, ↓an_t hc9, ↓an_t hc10]
    exact hs
set_option maxHeartbeats 4000000 in
set_option maxRecDepth 100000 in
theorem mf_72 {tab : px_T} (hn : px_nd tab) {h : Nat} (hh : 33 ≤ h) : px_Ok tab pn_i72 h (Sg_72 (f_72 tab)) := by
  refine px_mth hn (by decide +kernel) (fun av σ k hS => ?_) (fun C hT hC av σ k hS => ?_)
  · obtain ⟨x0, av0, e0, h0⟩ := av_0p hS
    obtain ⟨x1, av1, e1, h1⟩ := ai_1p h0
    obtain ⟨x2, av2, e2, h2⟩ := ai_2p h1
    obtain ⟨ez, hs⟩ := h2
    subst ez
    subst e2
    subst e1
    subst e0
    exact Nat.le_of_ble_eq_true rfl
  · obtain ⟨x0, av0, e0, h0⟩ := av_0p hS
    obtain ⟨x1, av1, e1, h1⟩ := ai_1p h0
    obtain ⟨x2, av2, e2, h2⟩ := ai_2p h1
    obtain ⟨ez, hs⟩ := h2
    subst ez
    subst e2
    subst e1
    subst e0
    subst hT
    show px_W C k 0 [some (.inr (.inr (some x0))), some (.inl x1), some (.inl x2), none, none, none, none, none, none, none, none, none] [] σ
    refine px_runH (h - 1) ck_72 [] [(7, kp_72_7 (fun y0 y1 y2 y3 τ => oW (f_72_7 (px_tb C) y0 y1 y2 y3 τ) (fun q => k (some (.inl q.1)) q.2)))] 80 12 (some .int) rfl rfl hC px_nosp (by omega) (px_cut1 (kq_72_7 (fun y0 y1 y2 y3 τ hq => by exact rl_72_7 hn (by omega) hC (y3, τ) hq)) px_nocut) (fun G Jf hG hJf => ?_)
    unfold f_72 at hs
    obtain ⟨hc0, hs⟩ := oW_gx hs
    simp only [↓hG, ↓hJf, ↓px_vc, ↓px_ex, ↓px_jp, ↓px_gi, ↓px_gl, ↓px_gr, ↓px_s1, ↓px_s2, ↓px_nl, ↓px_i1, ↓px_l1, ↓r1_s, ↓px_q1, ↓px_i2, ↓px_l2, ↓px_il, ↓px_d0, ↓px_d1, ↓px_d2, ↓px_pop, ↓px_sp, ↓px_rd, ↓px_rf, ↓pn_xf, ↓px_pt, ↓px_sw, ↓pn_SW, ↓px_ma, ↓reduceIte, Nat.reduceEqDiff, Nat.reduceAdd, Nat.reduceSub, ↓Option.toList_some, ↓Option.toList_none, ↓List.cons_append, ↓List.nil_append, ↓kI_s, ↓kJ_s, ↓kN_s, ↓kO_s, ↓kZ_s, ↓kE_s, ↓an_rfl, ↓bt1 n00, ↓bt2 n00, ↓bf1 n10, ↓bf2 n10, ↓an_sz0, ↓an_sz1, ↓an_sz2, ↓an_sz3, ↓an_sz4, ↓an_ri, ↓an_rb0, ↓an_rb1, ↓an_b0, ↓an_b1, true_and, ↓ai_0s, ↓al_0s, ↓av_0s, ↓aq_0s, ↓ai_1s, ↓al_1s, ↓av_1s, ↓aq_1s, ↓ai_2s, ↓al_2s, ↓av_2s, ↓aq_2s, ↓ai_3s, ↓al_3s, ↓av_3s, ↓aq_3s, ↓ai_4s, ↓al_4s, ↓av_4s, ↓aq_4s, ↓ai_5s, ↓al_5s, ↓av_5s, ↓aq_5s, ↓ai_6s, ↓al_6s, ↓av_6s, ↓aq_6s, ↓ai_7s, ↓al_7s, ↓av_7s, ↓aq_7s, ↓an_l12, ↓bk_72, ↓kp_72_7, ↓an_t hc0, ↓an_rv hc0]
    exact hs
def Sg_73 (g : px_M → Nat → Option (Int32)) : px_S := fun av σ k => av_0 av (fun x0 av => av = [] ∧ oW (g σ x0) (fun r => k (some (.inl r)) σ))
/-- NoThreeModel.threeMany()I -/
noncomputable def f_73_22 (tab : px_T) (σ : px_M) (x0 : Nat) (x1 : Int32) (x2 : Int32) : Option ((Int32 × Int32) ⊕ (Int32)) := some (.inl ((x1, (x2 + (nI 1)))))
noncomputable def F_73_4 (tab : px_T) (σ : px_M) (x0 : Nat) (x1 : Int32) (x2 : Int32) : Option ((Int32 × Int32) ⊕ (Int32)) := gd (px_obj (px_lay tab x0) 0) ((((σ).2.2 x0 1)).bind fun n1 => oA (px_lay tab n1) fun t2 l3 => gd (t2 = 0 ∨ t2 = 11) (gd (vp_in (nI 1) l3) (if (px_av t2 σ n1 ((nI 1)).toNatClampNeg) ≤ x2 then (gd (¬ (nI 3) = nI 0) (some (.inr ((x1 / (nI 3)))))) else ((f_33 tab σ x0 x2).bind fun r4 => f_73_22 tab σ x0 ((x1 + r4)) x2))))
noncomputable def f_73_4 (tab : px_T) (σ : px_M) (x0 : Nat) (x1 : Int32) (x2 : Int32) : Option (Int32) := lpO (fun s : Int32 × Int32 => F_73_4 tab σ x0 s.1 s.2) (x1, x2)
theorem f_73_4_eq (tab : px_T) (σ : px_M) (x0 : Nat) (x1 : Int32) (x2 : Int32) : f_73_4 tab σ x0 x1 x2 = (F_73_4 tab σ x0 x1 x2).bind (Sum.elim (fun s => f_73_4 tab σ x0 s.1 s.2) some) := lpO_eq _ _
noncomputable def f_73 (tab : px_T) (σ : px_M) (x0 : Nat) : Option (Int32) := f_73_4 tab σ x0 ((nI 0)) ((nI 0))
def kp_73_22 (Q : Nat → Int32 → Int32 → px_M → Prop) : px_P := fun ls st τ => st = [] ∧ kN ls (fun x0 ls => kI ls (fun x1 ls => kI ls (fun x2 ls => kE ls (Q x0 x1 x2 τ))))
theorem kq_73_22 {C : px_C} {k : Option px_V → px_M → Prop} {Q : Nat → Int32 → Int32 → px_M → Prop} (H : ∀ (x0 : Nat) (x1 : Int32) (x2 : Int32) (τ : px_M), Q x0 x1 x2 τ → px_W C k 22 [some (.inr (.inr (some x0))), some (.inl x1), some (.inl x2)] [] τ) : ∀ ls st τ, kp_73_22 Q ls st τ → px_W C k 22 ls st τ := by
  intro ls st τ hz
  obtain ⟨ez, h0⟩ := hz
  obtain ⟨x0, l0, e0, h1⟩ := kN_sp h0
  obtain ⟨x1, l1, e1, h2⟩ := kI_sp h1
  obtain ⟨x2, l2, e2, h3⟩ := kI_sp h2
  obtain ⟨ey, hy⟩ := kE_sp h3
  subst ez
  subst ey
  subst e2
  subst e1
  subst e0
  exact H x0 x1 x2 τ hy
def kp_73_4 (Q : Nat → Int32 → Int32 → px_M → Prop) : px_P := fun ls st τ => st = [] ∧ kN ls (fun x0 ls => kI ls (fun x1 ls => kI ls (fun x2 ls => kE ls (Q x0 x1 x2 τ))))
theorem kq_73_4 {C : px_C} {k : Option px_V → px_M → Prop} {Q : Nat → Int32 → Int32 → px_M → Prop} (H : ∀ (x0 : Nat) (x1 : Int32) (x2 : Int32) (τ : px_M), Q x0 x1 x2 τ → px_W C k 4 [some (.inr (.inr (some x0))), some (.inl x1), some (.inl x2)] [] τ) : ∀ ls st τ, kp_73_4 Q ls st τ → px_W C k 4 ls st τ := by
  intro ls st τ hz
  obtain ⟨ez, h0⟩ := hz
  obtain ⟨x0, l0, e0, h1⟩ := kN_sp h0
  obtain ⟨x1, l1, e1, h2⟩ := kI_sp h1
  obtain ⟨x2, l2, e2, h3⟩ := kI_sp h2
  obtain ⟨ey, hy⟩ := kE_sp h3
  subst ez
  subst ey
  subst e2
  subst e1
  subst e0
  exact H x0 x1 x2 τ hy
set_option maxHeartbeats 4000000 in
set_option maxRecDepth 100000 in
theorem rl_73_22 {C : px_C} (hn : px_nd (px_tb C)) {h : Nat} (hh : 3 ≤ h) (hC : px_ok C pn_i73 h) {k : Option px_V → px_M → Prop} {x0 : Nat} {x1 : Int32} {x2 : Int32} {σ : px_M} (hs : oW (f_73_22 (px_tb C) σ x0 x1 x2) (Sum.elim (fun s : Int32 × Int32 => px_W C k 4 [some (.inr (.inr (some x0))), some (.inl s.1), some (.inl s.2)] [] σ) (fun r => k (some (.inl r)) σ))) : px_W C k 22 [some (.inr (.inr (some x0))), some (.inl x1), some (.inl x2)] [] σ := by
  refine px_runH (h - 1) ck_73 [] [(4, kp_73_4 (fun y0 y1 y2 τ => y0 = x0 ∧ τ = σ ∧ (fun s : Int32 × Int32 => px_W C k 4 [some (.inr (.inr (some x0))), some (.inl s.1), some (.inl s.2)] [] σ) (y1, y2)))] 80 3 (some .int) rfl rfl hC px_nosp (by omega) (px_cut1 (kq_73_4 (fun y0 y1 y2 τ hq => by obtain ⟨rfl, rfl, hq⟩ := hq; exact hq)) px_nocut) (fun G Jf hG hJf => ?_)
  unfold f_73_22 at hs
  simp only [↓hG, ↓hJf, ↓px_vc, ↓px_ex, ↓px_jp, ↓px_gi, ↓px_gl, ↓px_gr, ↓px_s1, ↓px_s2, ↓px_nl, ↓px_i1, ↓px_l1, ↓r1_s, ↓px_q1, ↓px_i2, ↓px_l2, ↓px_il, ↓px_d0, ↓px_d1, ↓px_d2, ↓px_pop, ↓px_sp, ↓px_rd, ↓px_rf, ↓pn_xf, ↓px_pt, ↓px_sw, ↓pn_SW, ↓px_ma, ↓reduceIte, Nat.reduceEqDiff, Nat.reduceAdd, Nat.reduceSub, ↓Option.toList_some, ↓Option.toList_none, ↓List.cons_append, ↓List.nil_append, ↓kI_s, ↓kJ_s, ↓kN_s, ↓kO_s, ↓kZ_s, ↓kE_s, ↓an_rfl, ↓bt1 n00, ↓bt2 n00, ↓bf1 n10, ↓bf2 n10, ↓an_sz0, ↓an_sz1, ↓an_sz2, ↓an_sz3, ↓an_sz4, ↓an_ri, ↓an_rb0, ↓an_rb1, ↓an_b0, ↓an_b1, true_and, ↓ai_0s, ↓al_0s, ↓av_0s, ↓aq_0s, ↓ai_1s, ↓al_1s, ↓av_1s, ↓aq_1s, ↓ai_2s, ↓al_2s, ↓av_2s, ↓aq_2s, ↓ai_3s, ↓al_3s, ↓av_3s, ↓aq_3s, ↓ai_4s, ↓al_4s, ↓av_4s, ↓aq_4s, ↓ai_5s, ↓al_5s, ↓av_5s, ↓aq_5s, ↓ai_6s, ↓al_6s, ↓av_6s, ↓aq_6s, ↓ai_7s, ↓al_7s, ↓av_7s, ↓aq_7s, ↓an_l3, ↓bk_73, ↓kp_73_4]
  rw [oW_some] at hs
  exact hs
set_option maxHeartbeats 4000000 in
set_option maxRecDepth 100000 in
theorem rl_73_4 {C : px_C} (hn : px_nd (px_tb C)) {h : Nat} (hh : 3 ≤ h) (hC : px_ok C pn_i73 h) {k : Option px_V → px_M → Prop} {x0 : Nat} {σ : px_M} : ∀ s : Int32 × Int32, oW (f_73_4 (px_tb C) σ x0 s.1 s.2) (fun r => k (some (.inl r)) σ) → (fun s : Int32 × Int32 => px_W C k 4 [some (.inr (.inr (some x0))), some (.inl s.1), some (.inl s.2)] [] σ) s := by
  intro s h0
  refine lpO_sound (P := (fun s : Int32 × Int32 => px_W C k 4 [some (.inr (.inr (some x0))), some (.inl s.1), some (.inl s.2)] [] σ)) (fun s hs => ?_) h0
  obtain ⟨x1, x2⟩ := s
  refine px_runH (h - 1) ck_73 [(33, Sg_33 (f_33 (px_tb C)))] [(22, kp_73_22 (fun y0 y1 y2 τ => y0 = x0 ∧ τ = σ ∧ oW (f_73_22 (px_tb C) τ y0 y1 y2) (Sum.elim (fun s : Int32 × Int32 => px_W C k 4 [some (.inr (.inr (some x0))), some (.inl s.1), some (.inl s.2)] [] σ) (fun r => k (some (.inl r)) σ))))] 80 3 (some .int) rfl rfl hC (px_sp1 (mf_33 hn (by omega)) px_nosp) (by omega) (px_cut1 (kq_73_22 (fun y0 y1 y2 τ hq => by obtain ⟨rfl, rfl, hq⟩ := hq; exact rl_73_22 hn (by omega) hC  hq)) px_nocut) (fun G Jf hG hJf => ?_)
  replace hs : oW (F_73_4 (px_tb C) σ x0 x1 x2) _ := hs
  unfold F_73_4 at hs
  obtain ⟨hc0, hs⟩ := oW_gx hs
  obtain ⟨n1, hc1, hs⟩ := oW_bx hs
  obtain ⟨t2, l3, hc2, hs⟩ := oW_ax hs
  obtain ⟨hc3, hs⟩ := oW_gx hs
  obtain ⟨hc4, hs⟩ := oW_gx hs
  by_cases hc5 : (px_av t2 σ n1 ((nI 1)).toNatClampNeg) ≤ x2
  · replace hs := oW_t hs hc5
    obtain ⟨hc6, hs⟩ := oW_gx hs
    simp only [↓hG, ↓hJf, ↓px_vc, ↓px_ex, ↓px_jp, ↓px_gi, ↓px_gl, ↓px_gr, ↓px_s1, ↓px_s2, ↓px_nl, ↓px_i1, ↓px_l1, ↓r1_s, ↓px_q1, ↓px_i2, ↓px_l2, ↓px_il, ↓px_d0, ↓px_d1, ↓px_d2, ↓px_pop, ↓px_sp, ↓px_rd, ↓px_rf, ↓pn_xf, ↓px_pt, ↓px_sw, ↓pn_SW, ↓px_ma, ↓reduceIte, Nat.reduceEqDiff, Nat.reduceAdd, Nat.reduceSub, ↓Option.toList_some, ↓Option.toList_none, ↓List.cons_append, ↓List.nil_append, ↓kI_s, ↓kJ_s, ↓kN_s, ↓kO_s, ↓kZ_s, ↓kE_s, ↓an_rfl, ↓bt1 n00, ↓bt2 n00, ↓bf1 n10, ↓bf2 n10, ↓an_sz0, ↓an_sz1, ↓an_sz2, ↓an_sz3, ↓an_sz4, ↓an_ri, ↓an_rb0, ↓an_rb1, ↓an_b0, ↓an_b1, true_and, ↓ai_0s, ↓al_0s, ↓av_0s, ↓aq_0s, ↓ai_1s, ↓al_1s, ↓av_1s, ↓aq_1s, ↓ai_2s, ↓al_2s, ↓av_2s, ↓aq_2s, ↓ai_3s, ↓al_3s, ↓av_3s, ↓aq_3s, ↓ai_4s, ↓al_4s, ↓av_4s, ↓aq_4s, ↓ai_5s, ↓al_5s, ↓av_5s, ↓aq_5s, ↓ai_6s, ↓al_6s, ↓av_6s, ↓aq_6s, ↓ai_7s, ↓al_7s, ↓av_7s, ↓aq_7s, ↓an_l3, ↓bk_73, ↓Sg_33, ↓kp_73_22, ↓an_t hc0, ↓an_rv hc0, ↓r1_e hc1, ↓av_0e hc1, ↓av_1e hc1, ↓av_2e hc1, ↓av_3e hc1, ↓ar_e hc2, ↓an_t hc3, ↓an_t hc4, ↓bt1 hc5, ↓bt2 hc5, ↓an_t hc6]
    rw [oW_some] at hs
    exact hs
  · replace hs := oW_f hs hc5
    obtain ⟨r4, hc6, hs⟩ := oW_bx hs
    simp only [↓hG, ↓hJf, ↓px_vc, ↓px_ex, ↓px_jp, ↓px_gi, ↓px_gl, ↓px_gr, ↓px_s1, ↓px_s2, ↓px_nl, ↓px_i1, ↓px_l1, ↓r1_s, ↓px_q1, ↓px_i2, ↓px_l2, ↓px_il, ↓px_d0, ↓px_d1, ↓px_d2, ↓px_pop, ↓px_sp, ↓px_rd, ↓px_rf, ↓pn_xf, ↓px_pt, ↓px_sw, ↓pn_SW, ↓px_ma, ↓reduceIte, Nat.reduceEqDiff, Nat.reduceAdd, Nat.reduceSub, ↓Option.toList_some, ↓Option.toList_none, ↓List.cons_append, ↓List.nil_append, ↓kI_s, ↓kJ_s, ↓kN_s, ↓kO_s, ↓kZ_s, ↓kE_s, ↓an_rfl, ↓bt1 n00, ↓bt2 n00, ↓bf1 n10, ↓bf2 n10, ↓an_sz0, ↓an_sz1, ↓an_sz2, ↓an_sz3, ↓an_sz4, ↓an_ri, ↓an_rb0, ↓an_rb1, ↓an_b0, ↓an_b1, true_and, ↓ai_0s, ↓al_0s, ↓av_0s, ↓aq_0s, ↓ai_1s, ↓al_1s, ↓av_1s, ↓aq_1s, ↓ai_2s, ↓al_2s, ↓av_2s, ↓aq_2s, ↓ai_3s, ↓al_3s, ↓av_3s, ↓aq_3s, ↓ai_4s, ↓al_4s, ↓av_4s, ↓aq_4s, ↓ai_5s, ↓al_5s, ↓av_5s, ↓aq_5s, ↓ai_6s, ↓al_6s, ↓av_6s, ↓aq_6s, ↓ai_7s, ↓al_7s, ↓av_7s, ↓aq_7s, ↓an_l3, ↓bk_73, ↓Sg_33, ↓kp_73_22, ↓an_t hc0, ↓an_rv hc0, ↓r1_e hc1, ↓av_0e hc1, ↓av_1e hc1, ↓av_2e hc1, ↓av_3e hc1, ↓ar_e hc2, ↓an_t hc3, ↓an_t hc4, ↓bf1 hc5, ↓bf2 hc5, ↓oW_e hc6]
    exact hs
set_option maxHeartbeats 4000000 in
set_option maxRecDepth 100000 in
theorem mf_73 {tab : px_T} (hn : px_nd tab) {h : Nat} (hh : 3 ≤ h) : px_Ok tab pn_i73 h (Sg_73 (f_73 tab)) := by
  refine px_mth hn (by decide +kernel) (fun av σ k hS => ?_) (fun C hT hC av σ k hS => ?_)
  · obtain ⟨x0, av0, e0, h0⟩ := av_0p hS
    obtain ⟨ez, hs⟩ := h0
    subst ez
    subst e0
    exact Nat.le_of_ble_eq_true rfl
  · obtain ⟨x0, av0, e0, h0⟩ := av_0p hS
    obtain ⟨ez, hs⟩ := h0
    subst ez
    subst e0
    subst hT
    show px_W C k 0 [some (.inr (.inr (some x0))), none, none] [] σ
    refine px_runH (h - 1) ck_73 [] [(4, kp_73_4 (fun y0 y1 y2 τ => τ = σ ∧ oW (f_73_4 (px_tb C) τ y0 y1 y2) (fun r => k (some (.inl r)) σ)))] 80 3 (some .int) rfl rfl hC px_nosp (by omega) (px_cut1 (kq_73_4 (fun y0 y1 y2 τ hq => by obtain ⟨rfl, hq⟩ := hq; exact rl_73_4 hn (by omega) hC (y1, y2) hq)) px_nocut) (fun G Jf hG hJf => ?_)
    unfold f_73 at hs
    simp only [↓hG, ↓hJf, ↓px_vc, ↓px_ex, ↓px_jp, ↓px_gi, ↓px_gl, ↓px_gr, ↓px_s1, ↓px_s2, ↓px_nl, ↓px_i1, ↓px_l1, ↓r1_s, ↓px_q1, ↓px_i2, ↓px_l2, ↓px_il, ↓px_d0, ↓px_d1, ↓px_d2, ↓px_pop, ↓px_sp, ↓px_rd, ↓px_rf, ↓pn_xf, ↓px_pt, ↓px_sw, ↓pn_SW, ↓px_ma, ↓reduceIte, Nat.reduceEqDiff, Nat.reduceAdd, Nat.reduceSub, ↓Option.toList_some, ↓Option.toList_none, ↓List.cons_append, ↓List.nil_append, ↓kI_s, ↓kJ_s, ↓kN_s, ↓kO_s, ↓kZ_s, ↓kE_s, ↓an_rfl, ↓bt1 n00, ↓bt2 n00, ↓bf1 n10, ↓bf2 n10, ↓an_sz0, ↓an_sz1, ↓an_sz2, ↓an_sz3, ↓an_sz4, ↓an_ri, ↓an_rb0, ↓an_rb1, ↓an_b0, ↓an_b1, true_and, ↓ai_0s, ↓al_0s, ↓av_0s, ↓aq_0s, ↓ai_1s, ↓al_1s, ↓av_1s, ↓aq_1s, ↓ai_2s, ↓al_2s, ↓av_2s, ↓aq_2s, ↓ai_3s, ↓al_3s, ↓av_3s, ↓aq_3s, ↓ai_4s, ↓al_4s, ↓av_4s, ↓aq_4s, ↓ai_5s, ↓al_5s, ↓av_5s, ↓aq_5s, ↓ai_6s, ↓al_6s, ↓av_6s, ↓aq_6s, ↓ai_7s, ↓al_7s, ↓av_7s, ↓aq_7s, ↓an_l3, ↓bk_73, ↓kp_73_4]
    exact hs
