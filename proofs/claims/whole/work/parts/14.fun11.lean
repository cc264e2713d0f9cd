/-! shallow functions, printed by wip/whole/decomp.py -/
def Sg_80 (g : px_M → Nat → Int32 → Option (Int32 × px_M)) : px_S := fun av σ k => px_r1 av (fun x0 av => px_i1 av (fun x1 av => av = [] ∧ oW (g σ x0 x1) (fun q => k (some (.inl q.1)) q.2)))
/-- NoThreeModel.three(I)I -/
noncomputable def f_80_121 (tab : px_T) (σ : px_M) (x0 : Nat) (x1 : Int32) (x2 : Int32) (x3 : Int32) (x4 : Int32) (x5 : Int32) : Option ((Int32 × Int32) ⊕ ((Int32 × Int32) ⊕ ((Int32 × Int32) ⊕ (Int32 × px_M)))) := some (.inl ((x2, (x5 + (nI 1)))))
noncomputable def f_80_98 (tab : px_T) (σ : px_M) (x0 : Nat) (x1 : Int32) (x2 : Int32) (x3 : Int32) (x4 : Int32) (x5 : Int32) : Option ((Int32 × Int32) ⊕ ((Int32 × Int32) ⊕ ((Int32 × Int32) ⊕ (Int32 × px_M)))) := bn (x2 = x1) (f_80_121 tab σ x0 x1 ((x2 + (nI 1))) x3 x4 x5) (some (.inr (.inr (.inr ((((((nI 10000) * x3) + ((nI 100) * x4)) + x5), σ))))))
noncomputable def f_80_80 (tab : px_T) (σ : px_M) (x0 : Nat) (x1 : Int32) (x2 : Int32) (x3 : Int32) (x4 : Int32) (x5 : Int32) : Option ((Int32 × Int32) ⊕ ((Int32 × Int32) ⊕ ((Int32 × Int32) ⊕ (Int32 × px_M)))) := gd (px_obj (px_lay tab x0) 0) ((f_31 tab σ x0 x4).bind fun r1 => (f_14 tab σ ((r1).toInt64) x5).bind fun r2 => bn (r2 = nI 0) (f_80_98 tab σ x0 x1 x2 x3 x4 x5) (f_80_121 tab σ x0 x1 x2 x3 x4 x5))
noncomputable def f_80_66 (tab : px_T) (σ : px_M) (x0 : Nat) (x1 : Int32) (x2 : Int32) (x3 : Int32) (x4 : Int32) (x5 : Int32) : Option ((Int32 × Int32) ⊕ ((Int32 × Int32) ⊕ ((Int32 × Int32) ⊕ (Int32 × px_M)))) := gd (px_obj (px_lay tab x0) 0) ((f_31 tab σ x0 x3).bind fun r1 => (f_14 tab σ ((r1).toInt64) x5).bind fun r2 => if r2 = nI 0 then (f_80_121 tab σ x0 x1 x2 x3 x4 x5) else (f_80_80 tab σ x0 x1 x2 x3 x4 x5))
noncomputable def F_80_41 (tab : px_T) (σ : px_M) (x0 : Nat) (x1 : Int32) (x3 : Int32) (x4 : Int32) (x2 : Int32) (x5 : Int32) : Option ((Int32 × Int32) ⊕ ((Int32 × Int32) ⊕ ((Int32 × Int32) ⊕ (Int32 × px_M)))) := gd (px_obj (px_lay tab x0) 0) ((((σ).2.2 x0 1)).bind fun n1 => oA (px_lay tab n1) fun t2 l3 => gd (t2 = 0 ∨ t2 = 11) (gd (vp_in (nI 1) l3) (if (px_av t2 σ n1 ((nI 1)).toNatClampNeg) ≤ x5 then (some (.inr (.inl ((x2, (x4 + (nI 1))))))) else (gd (px_obj (px_lay tab x0) 0) ((f_31 tab σ x0 x3).bind fun r4 => (f_14 tab σ ((r4).toInt64) x4).bind fun r5 => if r5 = nI 0 then (f_80_121 tab σ x0 x1 x2 x3 x4 x5) else (f_80_66 tab σ x0 x1 x2 x3 x4 x5))))))
noncomputable def f_80_41 (tab : px_T) (σ : px_M) (x0 : Nat) (x1 : Int32) (x3 : Int32) (x4 : Int32) (x2 : Int32) (x5 : Int32) : Option ((Int32 × Int32) ⊕ ((Int32 × Int32) ⊕ (Int32 × px_M))) := lpO (fun s : Int32 × Int32 => F_80_41 tab σ x0 x1 x3 x4 s.1 s.2) (x2, x5)
theorem f_80_41_eq (tab : px_T) (σ : px_M) (x0 : Nat) (x1 : Int32) (x3 : Int32) (x4 : Int32) (x2 : Int32) (x5 : Int32) : f_80_41 tab σ x0 x1 x3 x4 x2 x5 = (F_80_41 tab σ x0 x1 x3 x4 x2 x5).bind (Sum.elim (fun s => f_80_41 tab σ x0 x1 x3 x4 s.1 s.2) some) := lpO_eq _ _
noncomputable def F_80_24 (tab : px_T) (σ : px_M) (x0 : Nat) (x1 : Int32) (x3 : Int32) (x2 : Int32) (x4 : Int32) : Option ((Int32 × Int32) ⊕ ((Int32 × Int32) ⊕ (Int32 × px_M))) := gd (px_obj (px_lay tab x0) 0) ((((σ).2.2 x0 1)).bind fun n1 => oA (px_lay tab n1) fun t2 l3 => gd (t2 = 0 ∨ t2 = 11) (gd (vp_in (nI 1) l3) (if (px_av t2 σ n1 ((nI 1)).toNatClampNeg) ≤ x4 then (some (.inr (.inl ((x2, (x3 + (nI 1))))))) else (f_80_41 tab σ x0 x1 x3 x4 x2 ((x4 + (nI 1)))))))
noncomputable def f_80_24 (tab : px_T) (σ : px_M) (x0 : Nat) (x1 : Int32) (x3 : Int32) (x2 : Int32) (x4 : Int32) : Option ((Int32 × Int32) ⊕ (Int32 × px_M)) := lpO (fun s : Int32 × Int32 => F_80_24 tab σ x0 x1 x3 s.1 s.2) (x2, x4)
theorem f_80_24_eq (tab : px_T) (σ : px_M) (x0 : Nat) (x1 : Int32) (x3 : Int32) (x2 : Int32) (x4 : Int32) : f_80_24 tab σ x0 x1 x3 x2 x4 = (F_80_24 tab σ x0 x1 x3 x2 x4).bind (Sum.elim (fun s => f_80_24 tab σ x0 x1 x3 s.1 s.2) some) := lpO_eq _ _
noncomputable def F_80_9 (tab : px_T) (σ : px_M) (x0 : Nat) (x1 : Int32) (x2 : Int32) (x3 : Int32) : Option ((Int32 × Int32) ⊕ (Int32 × px_M)) := gd (px_obj (px_lay tab x0) 0) ((((σ).2.2 x0 1)).bind fun n1 => oA (px_lay tab n1) fun t2 l3 => gd (t2 = 0 ∨ t2 = 11) (gd (vp_in (nI 1) l3) (if (px_av t2 σ n1 ((nI 1)).toNatClampNeg) ≤ x3 then (bn (x1 = (-1)) (some (.inr (((-1), σ)))) (some (.inr ((x2, σ))))) else (f_80_24 tab σ x0 x1 x3 x2 ((x3 + (nI 1)))))))
noncomputable def f_80_9 (tab : px_T) (σ : px_M) (x0 : Nat) (x1 : Int32) (x2 : Int32) (x3 : Int32) : Option (Int32 × px_M) := lpO (fun s : Int32 × Int32 => F_80_9 tab σ x0 x1 s.1 s.2) (x2, x3)
theorem f_80_9_eq (tab : px_T) (σ : px_M) (x0 : Nat) (x1 : Int32) (x2 : Int32) (x3 : Int32) : f_80_9 tab σ x0 x1 x2 x3 = (F_80_9 tab σ x0 x1 x2 x3).bind (Sum.elim (fun s => f_80_9 tab σ x0 x1 s.1 s.2) some) := lpO_eq _ _
noncomputable def f_80 (tab : px_T) (σ : px_M) (x0 : Nat) (x1 : Int32) : Option (Int32 × px_M) := gd (px_obj (px_lay tab x0) 0) (f_80_9 tab ((px_wi σ x0 0 (nI 0))) x0 x1 ((nI 0)) ((nI 0)))
def kp_80_121 (Q : Nat → Int32 → Int32 → Int32 → Int32 → Int32 → px_M → Prop) : px_P := fun ls st τ => st = [] ∧ kN ls (fun x0 ls => kI ls (fun x1 ls => kI ls (fun x2 ls => kI ls (fun x3 ls => kI ls (fun x4 ls => kI ls (fun x5 ls => kE ls (Q x0 x1 x2 x3 x4 x5 τ)))))))
theorem kq_80_121 {C : px_C} {k : Option px_V → px_M → Prop} {Q : Nat → Int32 → Int32 → Int32 → Int32 → Int32 → px_M → Prop} (H : ∀ (x0 : Nat) (x1 : Int32) (x2 : Int32) (x3 : Int32) (x4 : Int32) (x5 : Int32) (τ : px_M), Q x0 x1 x2 x3 x4 x5 τ → px_W C k 121 [some (.inr (.inr (some x0))), some (.inl x1), some (.inl x2), some (.inl x3), some (.inl x4), some (.inl x5)] [] τ) : ∀ ls st τ, kp_80_121 Q ls st τ → px_W C k 121 ls st τ := by
  intro ls st τ hz
  obtain ⟨ez, h0⟩ := hz
  obtain ⟨x0, l0, e0, h1⟩ := kN_sp h0
  obtain ⟨x1, l1, e1, h2⟩ := kI_sp h1
  obtain ⟨x2, l2, e2, h3⟩ := kI_sp h2
  obtain ⟨x3, l3, e3, h4⟩ := kI_sp h3
  obtain ⟨x4, l4, e4, h5⟩ := kI_sp h4
  obtain ⟨x5, l5, e5, h6⟩ := kI_sp h5
  obtain ⟨ey, hy⟩ := kE_sp h6
  subst ez
  subst ey
  subst e5
  subst e4
  subst e3
  subst e2
  subst e1
  subst e0
  exact H x0 x1 x2 x3 x4 x5 τ hy
def kp_80_98 (Q : Nat → Int32 → Int32 → Int32 → Int32 → Int32 → px_M → Prop) : px_P := fun ls st τ => st = [] ∧ kN ls (fun x0 ls => kI ls (fun x1 ls => kI ls (fun x2 ls => kI ls (fun x3 ls => kI ls (fun x4 ls => kI ls (fun x5 ls => kE ls (Q x0 x1 x2 x3 x4 x5 τ)))))))
theorem kq_80_98 {C : px_C} {k : Option px_V → px_M → Prop} {Q : Nat → Int32 → Int32 → Int32 → Int32 → Int32 → px_M → Prop} (H : ∀ (x0 : Nat) (x1 : Int32) (x2 : Int32) (x3 : Int32) (x4 : Int32) (x5 : Int32) (τ : px_M), Q x0 x1 x2 x3 x4 x5 τ → px_W C k 98 [some (.inr (.inr (some x0))), some (.inl x1), some (.inl x2), some (.inl x3), some (.inl x4), some (.inl x5)] [] τ) : ∀ ls st τ, kp_80_98 Q ls st τ → px_W C k 98 ls st τ := by
  intro ls st τ hz
  obtain ⟨ez, h0⟩ := hz
  obtain ⟨x0, l0, e0, h1⟩ := kN_sp h0
  obtain ⟨x1, l1, e1, h2⟩ := kI_sp h1
  obtain ⟨x2, l2, e2, h3⟩ := kI_sp h2
  obtain ⟨x3, l3, e3, h4⟩ := kI_sp h3
  obtain ⟨x4, l4, e4, h5⟩ := kI_sp h4
  obtain ⟨x5, l5, e5, h6⟩ := kI_sp h5
  obtain ⟨ey, hy⟩ := kE_sp h6
  subst ez
  subst ey
  subst e5
  subst e4
  subst e3
  subst e2
  subst e1
  subst e0
  exact H x0 x1 x2 x3 x4 x5 τ hy
def kp_80_80 (Q : Nat → Int32 → Int32 → Int32 → Int32 → Int32 → px_M → Prop) : px_P := fun ls st τ => st = [] ∧ kN ls (fun x0 ls => kI ls (fun x1 ls => kI ls (fun x2 ls => kI ls (fun x3 ls => kI ls (fun x4 ls => kI ls (fun x5 ls => kE ls (Q x0 x1 x2 x3 x4 x5 τ)))))))
theorem kq_80_80 {C : px_C} {k : Option px_V → px_M → Prop} {Q : Nat → Int32 → Int32 → Int32 → Int32 → Int32 → px_M → Prop} (H : ∀ (x0 : Nat) (x1 : Int32) (x2 : Int32) (x3 : Int32) (x4 : Int32) (x5 : Int32) (τ : px_M), Q x0 x1 x2 x3 x4 x5 τ → px_W C k 80 [some (.inr (.inr (some x0))), some (.inl x1), some (.inl x2), some (.inl x3), some (.inl x4), some (.inl x5)] [] τ) : ∀ ls st τ, kp_80_80 Q ls st τ → px_W C k 80 ls st τ := by
  intro ls st τ hz
  obtain ⟨ez, h0⟩ := hz
  obtain ⟨x0, l0, e0, h1⟩ := kN_sp h0
  obtain ⟨x1, l1, e1, h2⟩ := kI_sp h1
  obtain ⟨x2, l2, e2, h3⟩ := kI_sp h2
  obtain ⟨x3, l3, e3, h4⟩ := kI_sp h3
  obtain ⟨x4, l4, e4, h5⟩ := kI_sp h4
  obtain ⟨x5, l5, e5, h6⟩ := kI_sp h5
  obtain ⟨ey, hy⟩ := kE_sp h6
  subst ez
  subst ey
  subst e5
  subst e4
  subst e3
  subst e2
  subst e1
  subst e0
  exact H x0 x1 x2 x3 x4 x5 τ hy
def kp_80_66 (Q : Nat → Int32 → Int32 → Int32 → Int32 → Int32 → px_M → Prop) : px_P := fun ls st τ => st = [] ∧ kN ls (fun x0 ls => kI ls (fun x1 ls => kI ls (fun x2 ls => kI ls (fun x3 ls => kI ls (fun x4 ls => kI ls (fun x5 ls => kE ls (Q x0 x1 x2 x3 x4 x5 τ)))))))
theorem kq_80_66 {C : px_C} {k : Option px_V → px_M → Prop} {Q : Nat → Int32 → Int32 → Int32 → Int32 → Int32 → px_M → Prop} (H : ∀ (x0 : Nat) (x1 : Int32) (x2 : Int32) (x3 : Int32) (x4 : Int32) (x5 : Int32) (τ : px_M), Q x0 x1 x2 x3 x4 x5 τ → px_W C k 66 [some (.inr (.inr (some x0))), some (.inl x1), some (.inl x2), some (.inl x3), some (.inl x4), some (.inl x5)] [] τ) : ∀ ls st τ, kp_80_66 Q ls st τ → px_W C k 66 ls st τ := by
  intro ls st τ hz
  obtain ⟨ez, h0⟩ := hz
  obtain ⟨x0, l0, e0, h1⟩ := kN_sp h0
  obtain ⟨x1, l1, e1, h2⟩ := kI_sp h1
  obtain ⟨x2, l2, e2, h3⟩ := kI_sp h2
  obtain ⟨x3, l3, e3, h4⟩ := kI_sp h3
  obtain ⟨x4, l4, e4, h5⟩ := kI_sp h4
  obtain ⟨x5, l5, e5, h6⟩ := kI_sp h5
  obtain ⟨ey, hy⟩ := kE_sp h6
  subst ez
  subst ey
  subst e5
  subst e4
  subst e3
  subst e2
  subst e1
  subst e0
  exact H x0 x1 x2 x3 x4 x5 τ hy
def kp_80_41 (Q : Nat → Int32 → Int32 → Int32 → Int32 → Int32 → px_M → Prop) : px_P := fun ls st τ => st = [] ∧ kN ls (fun x0 ls => kI ls (fun x1 ls => kI ls (fun x2 ls => kI ls (fun x3 ls => kI ls (fun x4 ls => kI ls (fun x5 ls => kE ls (Q x0 x1 x2 x3 x4 x5 τ)))))))
theorem kq_80_41 {C : px_C} {k : Option px_V → px_M → Prop} {Q : Nat → Int32 → Int32 → Int32 → Int32 → Int32 → px_M → Prop} (H : ∀ (x0 : Nat) (x1 : Int32) (x2 : Int32) (x3 : Int32) (x4 : Int32) (x5 : Int32) (τ : px_M), Q x0 x1 x2 x3 x4 x5 τ → px_W C k 41 [some (.inr (.inr (some x0))), some (.inl x1), some (.inl x2), some (.inl x3), some (.inl x4), some (.inl x5)] [] τ) : ∀ ls st τ, kp_80_41 Q ls st τ → px_W C k 41 ls st τ := by
  intro ls st τ hz
  obtain ⟨ez, h0⟩ := hz
  obtain ⟨x0, l0, e0, h1⟩ := kN_sp h0
  obtain ⟨x1, l1, e1, h2⟩ := kI_sp h1
  obtain ⟨x2, l2, e2, h3⟩ := kI_sp h2
  obtain ⟨x3, l3, e3, h4⟩ := kI_sp h3
  obtain ⟨x4, l4, e4, h5⟩ := kI_sp h4
  obtain ⟨x5, l5, e5, h6⟩ := kI_sp h5
  obtain ⟨ey, hy⟩ := kE_sp h6
  subst ez
  subst ey
  subst e5
  subst e4
  subst e3
  subst e2
  subst e1
  subst e0
  exact H x0 x1 x2 x3 x4 x5 τ hy
def kp_80_24 (Q : Nat → Int32 → Int32 → Int32 → Int32 → px_M → Prop) : px_P := fun ls st τ => st = [] ∧ kN ls (fun x0 ls => kI ls (fun x1 ls => kI ls (fun x2 ls => kI ls (fun x3 ls => kI ls (fun x4 ls => kZ ls (fun ls => kE ls (Q x0 x1 x2 x3 x4 τ)))))))
theorem kq_80_24 {C : px_C} {k : Option px_V → px_M → Prop} {Q : Nat → Int32 → Int32 → Int32 → Int32 → px_M → Prop} (H : ∀ (x0 : Nat) (x1 : Int32) (x2 : Int32) (x3 : Int32) (x4 : Int32) (τ : px_M), Q x0 x1 x2 x3 x4 τ → ∀ (z5 : Option px_V), px_W C k 24 [some (.inr (.inr (some x0))), some (.inl x1), some (.inl x2), some (.inl x3), some (.inl x4), z5] [] τ) : ∀ ls st τ, kp_80_24 Q ls st τ → px_W C k 24 ls st τ := by
  intro ls st τ hz
  obtain ⟨ez, h0⟩ := hz
  obtain ⟨x0, l0, e0, h1⟩ := kN_sp h0
  obtain ⟨x1, l1, e1, h2⟩ := kI_sp h1
  obtain ⟨x2, l2, e2, h3⟩ := kI_sp h2
  obtain ⟨x3, l3, e3, h4⟩ := kI_sp h3
  obtain ⟨x4, l4, e4, h5⟩ := kI_sp h4
  obtain ⟨z5, l5, e5, h6⟩ := kZ_sp h5
  obtain ⟨ey, hy⟩ := kE_sp h6
  subst ez
  subst ey
  subst e5
  subst e4
  subst e3
  subst e2
  subst e1
  subst e0
  exact H x0 x1 x2 x3 x4 τ hy z5
def kp_80_9 (Q : Nat → Int32 → Int32 → Int32 → px_M → Prop) : px_P := fun ls st τ => st = [] ∧ kN ls (fun x0 ls => kI ls (fun x1 ls => kI ls (fun x2 ls => kI ls (fun x3 ls => kZ ls (fun ls => kZ ls (fun ls => kE ls (Q x0 x1 x2 x3 τ)))))))
theorem kq_80_9 {C : px_C} {k : Option px_V → px_M → Prop} {Q : Nat → Int32 → Int32 → Int32 → px_M → Prop} (H : ∀ (x0 : Nat) (x1 : Int32) (x2 : Int32) (x3 : Int32) (τ : px_M), Q x0 x1 x2 x3 τ → ∀ (z4 : Option px_V) (z5 : Option px_V), px_W C k 9 [some (.inr (.inr (some x0))), some (.inl x1), some (.inl x2), some (.inl x3), z4, z5] [] τ) : ∀ ls st τ, kp_80_9 Q ls st τ → px_W C k 9 ls st τ := by
  intro ls st τ hz
  obtain ⟨ez, h0⟩ := hz
  obtain ⟨x0, l0, e0, h1⟩ := kN_sp h0
  obtain ⟨x1, l1, e1, h2⟩ := kI_sp h1
  obtain ⟨x2, l2, e2, h3⟩ := kI_sp h2
  obtain ⟨x3, l3, e3, h4⟩ := kI_sp h3
  obtain ⟨z4, l4, e4, h5⟩ := kZ_sp h4
  obtain ⟨z5, l5, e5, h6⟩ := kZ_sp h5
  obtain ⟨ey, hy⟩ := kE_sp h6
  subst ez
  subst ey
  subst e5
  subst e4
  subst e3
  subst e2
  subst e1
  subst e0
  exact H x0 x1 x2 x3 τ hy z4 z5
set_option maxHeartbeats 4000000 in
set_option maxRecDepth 100000 in
theorem rl_80_121 {C : px_C} (hn : px_nd (px_tb C)) {h : Nat} (hh : 2 ≤ h) (hC : px_ok C pn_i80 h) {k : Option px_V → px_M → Prop} {x0 : Nat} {x1 : Int32} {x2 : Int32} {x3 : Int32} {x4 : Int32} {x5 : Int32} {σ : px_M} (hs : oW (f_80_121 (px_tb C) σ x0 x1 x2 x3 x4 x5) (Sum.elim (fun s : Int32 × Int32 => px_W C k 41 [some (.inr (.inr (some x0))), some (.inl x1), some (.inl s.1), some (.inl x3), some (.inl x4), some (.inl s.2)] [] σ) (Sum.elim (fun s : Int32 × Int32 => ∀ (z5 : Option px_V), px_W C k 24 [some (.inr (.inr (some x0))), some (.inl x1), some (.inl s.1), some (.inl x3), some (.inl s.2), z5] [] σ) (Sum.elim (fun s : Int32 × Int32 => ∀ (z4 : Option px_V) (z5 : Option px_V), px_W C k 9 [some (.inr (.inr (some x0))), some (.inl x1), some (.inl s.1), some (.inl s.2), z4, z5] [] σ) (fun q => k (some (.inl q.1)) q.2))))) : px_W C k 121 [some (.inr (.inr (some x0))), some (.inl x1), some (.inl x2), some (.inl x3), some (.inl x4), some (.inl x5)] [] σ := by
  refine px_runG (h - 1) ck_80 [] [(41, kp_80_41 (fun y0 y1 y2 y3 y4 y5 τ => y0 = x0 ∧ y1 = x1 ∧ y3 = x3 ∧ y4 = x4 ∧ τ = σ ∧ (fun s : Int32 × Int32 => px_W C k 41 [some (.inr (.inr (some x0))), some (.inl x1), some (.inl s.1), some (.inl x3), some (.inl x4), some (.inl s.2)] [] σ) (y2, y5)))] 80 hC px_nosp (by omega) (px_cut1 (kq_80_41 (fun y0 y1 y2 y3 y4 y5 τ hq => by obtain ⟨rfl, rfl, rfl, rfl, rfl, hq⟩ := hq; exact hq)) px_nocut) (fun G Jf hG hJf => ?_)
  simp only [f_80_121, oW_some, oW_none, oW_bind, oW_map, oW_ite, oW_bn, oW_gd, oW_oA, Sum.elim_inl, Sum.elim_inr, oW_and, true_and, and_true, false_and, and_false, true_or, or_true, false_or, or_false, and_self, or_self, not_false_eq_true, not_true_eq_false, false_implies, forall_const, true_implies, eq_self, ↓reduceIte] at hs
  simp only [↓hG, ↓hJf, ↓px_vc, ↓px_ex, ↓px_jp, ↓px_gi, ↓px_gl, ↓px_gr, ↓px_s1, ↓px_s2, ↓px_nl, ↓px_i1, ↓px_l1, ↓px_r1_o, ↓px_q1, ↓px_i2, ↓px_l2, ↓px_il, ↓px_d0, ↓px_d1, ↓px_d2, ↓px_pop, px_sz, ↓px_sp, ↓px_rd, ↓px_rf, ↓pn_xf, ↓px_pt, ↓px_rok, ↓px_rv_o, ↓px_fill, ↓px_sl, ↓px_sw, ↓pn_SW, lc_lt, lc_ge, lc_gt, lc_le, lc_eq, ↓reduceIte, Nat.reduceEqDiff, Nat.reduceLeDiff, Nat.reduceAdd, Nat.reduceSub, reduceCtorEq, List.length_cons, List.length_nil, Option.toList_some, Option.toList_none, List.cons_append, List.nil_append, true_and, and_true, false_and, and_false, true_or, or_true, false_or, or_false, and_self, or_self, not_false_eq_true, not_true_eq_false, false_implies, forall_const, true_implies, eq_self, ↓kI_s, ↓kJ_s, ↓kN_s, ↓kO_s, ↓kZ_s, ↓kE_s, oW_and, ↓bk_80, ↓pn_i80, oW_some, oW_none, oW_bind, oW_map, oW_ite, oW_bn, oW_gd, oW_oA, Sum.elim_inl, Sum.elim_inr, ↓kp_80_41]
  exact hs
set_option maxHeartbeats 4000000 in
set_option maxRecDepth 100000 in
theorem rl_80_98 {C : px_C} (hn : px_nd (px_tb C)) {h : Nat} (hh : 2 ≤ h) (hC : px_ok C pn_i80 h) {k : Option px_V → px_M → Prop} {x0 : Nat} {x1 : Int32} {x2 : Int32} {x3 : Int32} {x4 : Int32} {x5 : Int32} {σ : px_M} (hs : oW (f_80_98 (px_tb C) σ x0 x1 x2 x3 x4 x5) (Sum.elim (fun s : Int32 × Int32 => px_W C k 41 [some (.inr (.inr (some x0))), some (.inl x1), some (.inl s.1), some (.inl x3), some (.inl x4), some (.inl s.2)] [] σ) (Sum.elim (fun s : Int32 × Int32 => ∀ (z5 : Option px_V), px_W C k 24 [some (.inr (.inr (some x0))), some (.inl x1), some (.inl s.1), some (.inl x3), some (.inl s.2), z5] [] σ) (Sum.elim (fun s : Int32 × Int32 => ∀ (z4 : Option px_V) (z5 : Option px_V), px_W C k 9 [some (.inr (.inr (some x0))), some (.inl x1), some (.inl s.1), some (.inl s.2), z4, z5] [] σ) (fun q => k (some (.inl q.1)) q.2))))) : px_W C k 98 [some (.inr (.inr (some x0))), some (.inl x1), some (.inl x2), some (.inl x3), some (.inl x4), some (.inl x5)] [] σ := by
  refine px_runG (h - 1) ck_80 [] [(121, kp_80_121 (fun y0 y1 y2 y3 y4 y5 τ => y0 = x0 ∧ y1 = x1 ∧ y3 = x3 ∧ y4 = x4 ∧ τ = σ ∧ oW (f_80_121 (px_tb C) τ y0 y1 y2 y3 y4 y5) (Sum.elim (fun s : Int32 × Int32 => px_W C k 41 [some (.inr (.inr (some x0))), some (.inl x1), some (.inl s.1), some (.inl x3), some (.inl x4), some (.inl s.2)] [] σ) (Sum.elim (fun s : Int32 × Int32 => ∀ (z5 : Option px_V), px_W C k 24 [some (.inr (.inr (some x0))), some (.inl x1), some (.inl s.1), some (.inl x3), some (.inl s.2), z5] [] σ) (Sum.elim (fun s : Int32 × Int32 => ∀ (z4 : Option px_V) (z5 : Option px_V), px_W C k 9 [some (.inr (.inr (some x0))), some (.inl x1), some (.inl s.1), some (.inl s.2), z4, z5] [] σ) (fun q => k (some (.inl q.1)) q.2))))))] 80 hC px_nosp (by omega) (px_cut1 (kq_80_121 (fun y0 y1 y2 y3 y4 y5 τ hq => by obtain ⟨rfl, rfl, rfl, rfl, rfl, hq⟩ := hq; exact rl_80_121 hn (by omega) hC  hq)) px_nocut) (fun G Jf hG hJf => ?_)
  simp only [f_80_98, oW_some, oW_none, oW_bind, oW_map, oW_ite, oW_bn, oW_gd, oW_oA, Sum.elim_inl, Sum.elim_inr, oW_and, true_and, and_true, false_and, and_false, true_or, or_true, false_or, or_false, and_self, or_self, not_false_eq_true, not_true_eq_false, false_implies, forall_const, true_implies, eq_self, ↓reduceIte] at hs
  simp only [↓hG, ↓hJf, ↓px_vc, ↓px_ex, ↓px_jp, ↓px_gi, ↓px_gl, ↓px_gr, ↓px_s1, ↓px_s2, ↓px_nl, ↓px_i1, ↓px_l1, ↓px_r1_o, ↓px_q1, ↓px_i2, ↓px_l2, ↓px_il, ↓px_d0, ↓px_d1, ↓px_d2, ↓px_pop, px_sz, ↓px_sp, ↓px_rd, ↓px_rf, ↓pn_xf, ↓px_pt, ↓px_rok, ↓px_rv_o, ↓px_fill, ↓px_sl, ↓px_sw, ↓pn_SW, lc_lt, lc_ge, lc_gt, lc_le, lc_eq, ↓reduceIte, Nat.reduceEqDiff, Nat.reduceLeDiff, Nat.reduceAdd, Nat.reduceSub, reduceCtorEq, List.length_cons, List.length_nil, Option.toList_some, Option.toList_none, List.cons_append, List.nil_append, true_and, and_true, false_and, and_false, true_or, or_true, false_or, or_false, and_self, or_self, not_false_eq_true, not_true_eq_false, false_implies, forall_const, true_implies, eq_self, ↓kI_s, ↓kJ_s, ↓kN_s, ↓kO_s, ↓kZ_s, ↓kE_s, oW_and, ↓bk_80, ↓pn_i80, oW_some, oW_none, oW_bind, oW_map, oW_ite, oW_bn, oW_gd, oW_oA, Sum.elim_inl, Sum.elim_inr, ↓kp_80_121]
  exact hs
set_option maxHeartbeats 4000000 in
set_option maxRecDepth 100000 in
theorem rl_80_80 {C : px_C} (hn : px_nd (px_tb C)) {h : Nat} (hh : 2 ≤ h) (hC : px_ok C pn_i80 h) {k : Option px_V → px_M → Prop} {x0 : Nat} {x1 : Int32} {x2 : Int32} {x3 : Int32} {x4 : Int32} {x5 : Int32} {σ : px_M} (hs : oW (f_80_80 (px_tb C) σ x0 x1 x2 x3 x4 x5) (Sum.elim (fun s : Int32 × Int32 => px_W C k 41 [some (.inr (.inr (some x0))), some (.inl x1), some (.inl s.1), some (.inl x3), some (.inl x4), some (.inl s.2)] [] σ) (Sum.elim (fun s : Int32 × Int32 => ∀ (z5 : Option px_V), px_W C k 24 [some (.inr (.inr (some x0))), some (.inl x1), some (.inl s.1), some (.inl x3), some (.inl s.2), z5] [] σ) (Sum.elim (fun s : Int32 × Int32 => ∀ (z4 : Option px_V) (z5 : Option px_V), px_W C k 9 [some (.inr (.inr (some x0))), some (.inl x1), some (.inl s.1), some (.inl s.2), z4, z5] [] σ) (fun q => k (some (.inl q.1)) q.2))))) : px_W C k 80 [some (.inr (.inr (some x0))), some (.inl x1), some (.inl x2), some (.inl x3), some (.inl x4), some (.inl x5)] [] σ := by
  refine px_runG (h - 1) ck_80 [(14, Sg_14 (f_14 (px_tb C))), (31, Sg_31 (f_31 (px_tb C)))] [(98, kp_80_98 (fun y0 y1 y2 y3 y4 y5 τ => y0 = x0 ∧ y1 = x1 ∧ y3 = x3 ∧ y4 = x4 ∧ τ = σ ∧ oW (f_80_98 (px_tb C) τ y0 y1 y2 y3 y4 y5) (Sum.elim (fun s : Int32 × Int32 => px_W C k 41 [some (.inr (.inr (some x0))), some (.inl x1), some (.inl s.1), some (.inl x3), some (.inl x4), some (.inl s.2)] [] σ) (Sum.elim (fun s : Int32 × Int32 => ∀ (z5 : Option px_V), px_W C k 24 [some (.inr (.inr (some x0))), some (.inl x1), some (.inl s.1), some (.inl x3), some (.inl s.2), z5] [] σ) (Sum.elim (fun s : Int32 × Int32 => ∀ (z4 : Option px_V) (z5 : Option px_V), px_W C k 9 [some (.inr (.inr (some x0))), some (.inl x1), some (.inl s.1), some (.inl s.2), z4, z5] [] σ) (fun q => k (some (.inl q.1)) q.2)))))), (121, kp_80_121 (fun y0 y1 y2 y3 y4 y5 τ => y0 = x0 ∧ y1 = x1 ∧ y3 = x3 ∧ y4 = x4 ∧ τ = σ ∧ oW (f_80_121 (px_tb C) τ y0 y1 y2 y3 y4 y5) (Sum.elim (fun s : Int32 × Int32 => px_W C k 41 [some (.inr (.inr (some x0))), some (.inl x1), some (.inl s.1), some (.inl x3), some (.inl x4), some (.inl s.2)] [] σ) (Sum.elim (fun s : Int32 × Int32 => ∀ (z5 : Option px_V), px_W C k 24 [some (.inr (.inr (some x0))), some (.inl x1), some (.inl s.1), some (.inl x3), some (.inl s.2), z5] [] σ) (Sum.elim (fun s : Int32 × Int32 => ∀ (z4 : Option px_V) (z5 : Option px_V), px_W C k 9 [some (.inr (.inr (some x0))), some (.inl x1), some (.inl s.1), some (.inl s.2), z4, z5] [] σ) (fun q => k (some (.inl q.1)) q.2))))))] 80 hC (px_sp1 (mf_14 hn (by omega)) (px_sp1 (mf_31 hn (by omega)) px_nosp)) (by omega) (px_cut1 (kq_80_98 (fun y0 y1 y2 y3 y4 y5 τ hq => by obtain ⟨rfl, rfl, rfl, rfl, rfl, hq⟩ := hq; exact rl_80_98 hn (by omega) hC  hq)) (px_cut1 (kq_80_121 (fun y0 y1 y2 y3 y4 y5 τ hq => by obtain ⟨rfl, rfl, rfl, rfl, rfl, hq⟩ := hq; exact rl_80_121 hn (by omega) hC  hq)) px_nocut)) (fun G Jf hG hJf => ?_)
  simp only [f_80_80, oW_some, oW_none, oW_bind, oW_map, oW_ite, oW_bn, oW_gd, oW_oA, Sum.elim_inl, Sum.elim_inr, oW_and, true_and, and_true, false_and, and_false, true_or, or_true, false_or, or_false, and_self, or_self, not_false_eq_true, not_true_eq_false, false_implies, forall_const, true_implies, eq_self, ↓reduceIte] at hs
  simp only [↓hG, ↓hJf, ↓px_vc, ↓px_ex, ↓px_jp, ↓px_gi, ↓px_gl, ↓px_gr, ↓px_s1, ↓px_s2, ↓px_nl, ↓px_i1, ↓px_l1, ↓px_r1_o, ↓px_q1, ↓px_i2, ↓px_l2, ↓px_il, ↓px_d0, ↓px_d1, ↓px_d2, ↓px_pop, px_sz, ↓px_sp, ↓px_rd, ↓px_rf, ↓pn_xf, ↓px_pt, ↓px_rok, ↓px_rv_o, ↓px_fill, ↓px_sl, ↓px_sw, ↓pn_SW, lc_lt, lc_ge, lc_gt, lc_le, lc_eq, ↓reduceIte, Nat.reduceEqDiff, Nat.reduceLeDiff, Nat.reduceAdd, Nat.reduceSub, reduceCtorEq, List.length_cons, List.length_nil, Option.toList_some, Option.toList_none, List.cons_append, List.nil_append, true_and, and_true, false_and, and_false, true_or, or_true, false_or, or_false, and_self, or_self, not_false_eq_true, not_true_eq_false, false_implies, forall_const, true_implies, eq_self, ↓kI_s, ↓kJ_s, ↓kN_s, ↓kO_s, ↓kZ_s, ↓kE_s, oW_and, ↓bk_80, ↓pn_i80, oW_some, oW_none, oW_bind, oW_map, oW_ite, oW_bn, oW_gd, oW_oA, Sum.elim_inl, Sum.elim_inr, ↓Sg_14, ↓Sg_31, ↓kp_80_98, ↓kp_80_121]
  exact hs
set_option maxHeartbeats 4000000 in
set_option maxRecDepth 100000 in
theorem rl_80_66 {C : px_C} (hn : px_nd (px_tb C)) {h : Nat} (hh : 2 ≤ h) (hC : px_ok C pn_i80 h) {k : Option px_V → px_M → Prop} {x0 : Nat} {x1 : Int32} {x2 : Int32} {x3 : Int32} {x4 : Int32} {x5 : Int32} {σ : px_M} (hs : oW (f_80_66 (px_tb C) σ x0 x1 x2 x3 x4 x5) (Sum.elim (fun s : Int32 × Int32 => px_W C k 41 [some (.inr (.inr (some x0))), some (.inl x1), some (.inl s.1), some (.inl x3), some (.inl x4), some (.inl s.2)] [] σ) (Sum.elim (fun s : Int32 × Int32 => ∀ (z5 : Option px_V), px_W C k 24 [some (.inr (.inr (some x0))), some (.inl x1), some (.inl s.1), some (.inl x3), some (.inl s.2), z5] [] σ) (Sum.elim (fun s : Int32 × Int32 => ∀ (z4 : Option px_V) (z5 : Option px_V), px_W C k 9 [some (.inr (.inr (some x0))), some (.inl x1), some (.inl s.1), some (.inl s.2), z4, z5] [] σ) (fun q => k (some (.inl q.1)) q.2))))) : px_W C k 66 [some (.inr (.inr (some x0))), some (.inl x1), some (.inl x2), some (.inl x3), some (.inl x4), some (.inl x5)] [] σ := by
  refine px_runG (h - 1) ck_80 [(14, Sg_14 (f_14 (px_tb C))), (31, Sg_31 (f_31 (px_tb C)))] [(80, kp_80_80 (fun y0 y1 y2 y3 y4 y5 τ => y0 = x0 ∧ y1 = x1 ∧ y3 = x3 ∧ y4 = x4 ∧ τ = σ ∧ oW (f_80_80 (px_tb C) τ y0 y1 y2 y3 y4 y5) (Sum.elim (fun s : Int32 × Int32 => px_W C k 41 [some (.inr (.inr (some x0))), some (.inl x1), some (.inl s.1), some (.inl x3), some (.inl x4), some (.inl s.2)] [] σ) (Sum.elim (fun s : Int32 × Int32 => ∀ (z5 : Option px_V), px_W C k 24 [some (.inr (.inr (some x0))), some (.inl x1), some (.inl s.1), some (.inl x3), some (.inl s.2), z5] [] σ) (Sum.elim (fun s : Int32 × Int32 => ∀ (z4 : Option px_V) (z5 : Option px_V), px_W C k 9 [some (.inr (.inr (some x0))), some (.inl x1), some (.inl s.1), some (.inl s.2), z4, z5] [] σ) (fun q => k (some (.inl q.1)) q.2)))))), (121, kp_80_121 (fun y0 y1 y2 y3 y4 y5 τ => y0 = x0 ∧ y1 = x1 ∧ y3 = x3 ∧ y4 = x4 ∧ τ = σ ∧ oW (f_80_121 (px_tb C) τ y0 y1 y2 y3 y4 y5) (Sum.elim (fun s : Int32 × Int32 => px_W C k 41 [some (.inr (.inr (some x0))), some (.inl x1), some (.inl s.1), some (.inl x3), some (.inl x4), some (.inl s.2)] [] σ) (Sum.elim (fun s : Int32 × Int32 => ∀ (z5 : Option px_V), px_W C k 24 [some (.inr (.inr (some x0))), some (.inl x1), some (.inl s.1), some (.inl x3), some (.inl s.2), z5] [] σ) (Sum.elim (fun s : Int32 × Int32 => ∀ (z4 : Option px_V) (z5 : Option px_V), px_W C k 9 [some (.inr (.inr (some x0))), some (.inl x1), some (.inl s.1), some (.inl s.2), z4, z5] [] σ) (fun q => k (some (.inl q.1)) q.2))))))] 80 hC (px_sp1 (mf_14 hn (by omega)) (px_sp1 (mf_31 hn (by omega)) px_nosp)) (by omega) (px_cut1 (kq_80_80 (fun y0 y1 y2 y3 y4 y5 τ hq => by obtain ⟨rfl, rfl, rfl, rfl, rfl, hq⟩ := hq; exact rl_80_80 hn (by omega) hC  hq)) (px_cut1 (kq_80_121 (fun y0 y1 y2 y3 y4 y5 τ hq => by obtain ⟨rfl, rfl, rfl, rfl, rfl, hq⟩ := hq; exact rl_80_121 hn (by omega) hC  hq)) px_nocut)) (fun G Jf hG hJf => ?_)
  simp only [f_80_66, oW_some, oW_none, oW_bind, oW_map, oW_ite, oW_bn, oW_gd, oW_oA, Sum.elim_inl, Sum.elim_inr, oW_and, true_and, and_true, false_and, and_false, true_or, or_true, false_or, or_false, and_self, or_self, not_false_eq_true, not_true_eq_false, false_implies, forall_const, true_implies, eq_self, ↓reduceIte] at hs
  simp only [↓hG, ↓hJf, ↓px_vc, ↓px_ex, ↓px_jp, ↓px_gi, ↓px_gl, ↓px_gr, ↓px_s1, ↓px_s2, ↓px_nl, ↓px_i1, ↓px_l1, ↓px_r1_o, ↓px_q1, ↓px_i2, ↓px_l2, ↓px_il, ↓px_d0, ↓px_d1, ↓px_d2, ↓px_pop, px_sz, ↓px_sp, ↓px_rd, ↓px_rf, ↓pn_xf, ↓px_pt, ↓px_rok, ↓px_rv_o, ↓px_fill, ↓px_sl, ↓px_sw, ↓pn_SW, lc_lt, lc_ge, lc_gt, lc_le, lc_eq, ↓reduceIte, Nat.reduceEqDiff, Nat.reduceLeDiff, Nat.reduceAdd, Nat.reduceSub, reduceCtorEq, List.length_cons, List.length_nil, Option.toList_some, Option.toList_none, List.cons_append, List.nil_append, true_and, and_true, false_and, and_false, true_or, or_true, false_or, or_false, and_self, or_self, not_false_eq_true, not_true_eq_false, false_implies, forall_const, true_implies, eq_self, ↓kI_s, ↓kJ_s, ↓kN_s, ↓kO_s, ↓kZ_s, ↓kE_s, oW_and, ↓bk_80, ↓pn_i80, oW_some, oW_none, oW_bind, oW_map, oW_ite, oW_bn, oW_gd, oW_oA, Sum.elim_inl, Sum.elim_inr, ↓Sg_14, ↓Sg_31, ↓kp_80_80, ↓kp_80_121]
  exact hs
set_option maxHeartbeats 4000000 in
set_option maxRecDepth 100000 in
theorem rl_80_41 {C : px_C} (hn : px_nd (px_tb C)) {h : Nat} (hh : 2 ≤ h) (hC : px_ok C pn_i80 h) {k : Option px_V → px_M → Prop} {x0 : Nat} {x1 : Int32} {x3 : Int32} {x4 : Int32} {σ : px_M} : ∀ s : Int32 × Int32, oW (f_80_41 (px_tb C) σ x0 x1 x3 x4 s.1 s.2) (Sum.elim (fun s : Int32 × Int32 => ∀ (z5 : Option px_V), px_W C k 24 [some (.inr (.inr (some x0))), some (.inl x1), some (.inl s.1), some (.inl x3), some (.inl s.2), z5] [] σ) (Sum.elim (fun s : Int32 × Int32 => ∀ (z4 : Option px_V) (z5 : Option px_V), px_W C k 9 [some (.inr (.inr (some x0))), some (.inl x1), some (.inl s.1), some (.inl s.2), z4, z5] [] σ) (fun q => k (some (.inl q.1)) q.2))) → (fun s : Int32 × Int32 => px_W C k 41 [some (.inr (.inr (some x0))), some (.inl x1), some (.inl s.1), some (.inl x3), some (.inl x4), some (.inl s.2)] [] σ) s := by
  intro s h0
  refine lpO_sound (P := (fun s : Int32 × Int32 => px_W C k 41 [some (.inr (.inr (some x0))), some (.inl x1), some (.inl s.1), some (.inl x3), some (.inl x4), some (.inl s.2)] [] σ)) (fun s hs => ?_) h0
  obtain ⟨x2, x5⟩ := s
  refine px_runG (h - 1) ck_80 [(14, Sg_14 (f_14 (px_tb C))), (31, Sg_31 (f_31 (px_tb C)))] [(24, kp_80_24 (fun y0 y1 y2 y3 y4 τ => y0 = x0 ∧ y1 = x1 ∧ y3 = x3 ∧ τ = σ ∧ (fun s : Int32 × Int32 => ∀ (z5 : Option px_V), px_W C k 24 [some (.inr (.inr (some x0))), some (.inl x1), some (.inl s.1), some (.inl x3), some (.inl s.2), z5] [] σ) (y2, y4))), (66, kp_80_66 (fun y0 y1 y2 y3 y4 y5 τ => y0 = x0 ∧ y1 = x1 ∧ y3 = x3 ∧ y4 = x4 ∧ τ = σ ∧ oW (f_80_66 (px_tb C) τ y0 y1 y2 y3 y4 y5) (Sum.elim (fun s : Int32 × Int32 => px_W C k 41 [some (.inr (.inr (some x0))), some (.inl x1), some (.inl s.1), some (.inl x3), some (.inl x4), some (.inl s.2)] [] σ) (Sum.elim (fun s : Int32 × Int32 => ∀ (z5 : Option px_V), px_W C k 24 [some (.inr (.inr (some x0))), some (.inl x1), some (.inl s.1), some (.inl x3), some (.inl s.2), z5] [] σ) (Sum.elim (fun s : Int32 × Int32 => ∀ (z4 : Option px_V) (z5 : Option px_V), px_W C k 9 [some (.inr (.inr (some x0))), some (.inl x1), some (.inl s.1), some (.inl s.2), z4, z5] [] σ) (fun q => k (some (.inl q.1)) q.2)))))), (121, kp_80_121 (fun y0 y1 y2 y3 y4 y5 τ => y0 = x0 ∧ y1 = x1 ∧ y3 = x3 ∧ y4 = x4 ∧ τ = σ ∧ oW (f_80_121 (px_tb C) τ y0 y1 y2 y3 y4 y5) (Sum.elim (fun s : Int32 × Int32 => px_W C k 41 [some (.inr (.inr (some x0))), some (.inl x1), some (.inl s.1), some (.inl x3), some (.inl x4), some (.inl s.2)] [] σ) (Sum.elim (fun s : Int32 × Int32 => ∀ (z5 : Option px_V), px_W C k 24 [some (.inr (.inr (some x0))), some (.inl x1), some (.inl s.1), some (.inl x3), some (.inl s.2), z5] [] σ) (Sum.elim (fun s : Int32 × Int32 => ∀ (z4 : Option px_V) (z5 : Option px_V), px_W C k 9 [some (.inr (.inr (some x0))), some (.inl x1), some (.inl s.1), some (.inl s.2), z4, z5] [] σ) (fun q => k (some (.inl q.1)) q.2))))))] 80 hC (px_sp1 (mf_14 hn (by omega)) (px_sp1 (mf_31 hn (by omega)) px_nosp)) (by omega) (px_cut1 (kq_80_24 (fun y0 y1 y2 y3 y4 τ hq => by obtain ⟨rfl, rfl, rfl, rfl, hq⟩ := hq; exact hq)) (px_cut1 (kq_80_66 (fun y0 y1 y2 y3 y4 y5 τ hq => by obtain ⟨rfl, rfl, rfl, rfl, rfl, hq⟩ := hq; exact rl_80_66 hn (by omega) hC  hq)) (px_cut1 (kq_80_121 (fun y0 y1 y2 y3 y4 y5 τ hq => by obtain ⟨rfl, rfl, rfl, rfl, rfl, hq⟩ := hq; exact rl_80_121 hn (by omega) hC  hq)) px_nocut))) (fun G Jf hG hJf => ?_)
  simp only [F_80_41, oW_some, oW_none, oW_bind, oW_map, oW_ite, oW_bn, oW_gd, oW_oA, Sum.elim_inl, Sum.elim_inr, oW_and, true_and, and_true, false_and, and_false, true_or, or_true, false_or, or_false, and_self, or_self, not_false_eq_true, not_true_eq_false, false_implies, forall_const, true_implies, eq_self, ↓reduceIte] at hs
  simp only [↓hG, ↓hJf, ↓px_vc, ↓px_ex, ↓px_jp, ↓px_gi, ↓px_gl, ↓px_gr, ↓px_s1, ↓px_s2, ↓px_nl, ↓px_i1, ↓px_l1, ↓px_r1_o, ↓px_q1, ↓px_i2, ↓px_l2, ↓px_il, ↓px_d0, ↓px_d1, ↓px_d2, ↓px_pop, px_sz, ↓px_sp, ↓px_rd, ↓px_rf, ↓pn_xf, ↓px_pt, ↓px_rok, ↓px_rv_o, ↓px_fill, ↓px_sl, ↓px_sw, ↓pn_SW, lc_lt, lc_ge, lc_gt, lc_le, lc_eq, ↓reduceIte, Nat.reduceEqDiff, Nat.reduceLeDiff, Nat.reduceAdd, Nat.reduceSub, reduceCtorEq, List.length_cons, List.length_nil, Option.toList_some, Option.toList_none, List.cons_append, List.nil_append, true_and, and_true, false_and, and_false, true_or, or_true, false_or, or_false, and_self, or_self, not_false_eq_true, not_true_eq_false, false_implies, forall_const, true_implies, eq_self, ↓kI_s, ↓kJ_s, ↓kN_s, ↓kO_s, ↓kZ_s, ↓kE_s, oW_and, ↓bk_80, ↓pn_i80, oW_some, oW_none, oW_bind, oW_map, oW_ite, oW_bn, oW_gd, oW_oA, Sum.elim_inl, Sum.elim_inr, ↓Sg_14, ↓Sg_31, ↓kp_80_24, ↓kp_80_66, ↓kp_80_121]
  exact hs
set_option maxHeartbeats 4000000 in
set_option maxRecDepth 100000 in
theorem rl_80_24 {C : px_C} (hn : px_nd (px_tb C)) {h : Nat} (hh : 2 ≤ h) (hC : px_ok C pn_i80 h) {k : Option px_V → px_M → Prop} {x0 : Nat} {x1 : Int32} {x3 : Int32} {σ : px_M} : ∀ s : Int32 × Int32, oW (f_80_24 (px_tb C) σ x0 x1 x3 s.1 s.2) (Sum.elim (fun s : Int32 × Int32 => ∀ (z4 : Option px_V) (z5 : Option px_V), px_W C k 9 [some (.inr (.inr (some x0))), some (.inl x1), some (.inl s.1), some (.inl s.2), z4, z5] [] σ) (fun q => k (some (.inl q.1)) q.2)) → (fun s : Int32 × Int32 => ∀ (z5 : Option px_V), px_W C k 24 [some (.inr (.inr (some x0))), some (.inl x1), some (.inl s.1), some (.inl x3), some (.inl s.2), z5] [] σ) s := by
  intro s h0
  refine lpO_sound (P := (fun s : Int32 × Int32 => ∀ (z5 : Option px_V), px_W C k 24 [some (.inr (.inr (some x0))), some (.inl x1), some (.inl s.1), some (.inl x3), some (.inl s.2), z5] [] σ)) (fun s hs => ?_) h0
  obtain ⟨x2, x4⟩ := s
  intro z5
  refine px_runG (h - 1) ck_80 [] [(9, kp_80_9 (fun y0 y1 y2 y3 τ => y0 = x0 ∧ y1 = x1 ∧ τ = σ ∧ (fun s : Int32 × Int32 => ∀ (z4 : Option px_V) (z5 : Option px_V), px_W C k 9 [some (.inr (.inr (some x0))), some (.inl x1), some (.inl s.1), some (.inl s.2), z4, z5] [] σ) (y2, y3))), (41, kp_80_41 (fun y0 y1 y2 y3 y4 y5 τ => y0 = x0 ∧ y1 = x1 ∧ y3 = x3 ∧ τ = σ ∧ oW (f_80_41 (px_tb C) τ y0 y1 y3 y4 y2 y5) (Sum.elim (fun s : Int32 × Int32 => ∀ (z5 : Option px_V), px_W C k 24 [some (.inr (.inr (some x0))), some (.inl x1), some (.inl s.1), some (.inl x3), some (.inl s.2), z5] [] σ) (Sum.elim (fun s : Int32 × Int32 => ∀ (z4 : Option px_V) (z5 : Option px_V), px_W C k 9 [some (.inr (.inr (some x0))), some (.inl x1), some (.inl s.1), some (.inl s.2), z4, z5] [] σ) (fun q => k (some (.inl q.1)) q.2)))))] 80 hC px_nosp (by omega) (px_cut1 (kq_80_9 (fun y0 y1 y2 y3 τ hq => by obtain ⟨rfl, rfl, rfl, hq⟩ := hq; exact hq)) (px_cut1 (kq_80_41 (fun y0 y1 y2 y3 y4 y5 τ hq => by obtain ⟨rfl, rfl, rfl, rfl, hq⟩ := hq; exact rl_80_41 hn (by omega) hC (y2, y5) hq)) px_nocut)) (fun G Jf hG hJf => ?_)
  simp only [F_80_24, oW_some, oW_none, oW_bind, oW_map, oW_ite, oW_bn, oW_gd, oW_oA, Sum.elim_inl, Sum.elim_inr, oW_and, true_and, and_true, false_and, and_false, true_or, or_true, false_or, or_false, and_self, or_self, not_false_eq_true, not_true_eq_false, false_implies, forall_const, true_implies, eq_self, ↓reduceIte] at hs
  simp only [↓hG, ↓hJf, ↓px_vc, ↓px_ex, ↓px_jp, ↓px_gi, ↓px_gl, ↓px_gr, ↓px_s1, ↓px_s2, ↓px_nl, ↓px_i1, ↓px_l1, ↓px_r1_o, ↓px_q1, ↓px_i2, ↓px_l2, ↓px_il, ↓px_d0, ↓px_d1, ↓px_d2, ↓px_pop, px_sz, ↓px_sp, ↓px_rd, ↓px_rf, ↓pn_xf, ↓px_pt, ↓px_rok, ↓px_rv_o, ↓px_fill, ↓px_sl, ↓px_sw, ↓pn_SW, lc_lt, lc_ge, lc_gt, lc_le, lc_eq, ↓reduceIte, Nat.reduceEqDiff, Nat.reduceLeDiff, Nat.reduceAdd, Nat.reduceSub, reduceCtorEq, List.length_cons, List.length_nil, Option.toList_some, Option.toList_none, List.cons_append, List.nil_append, true_and, and_true, false_and, and_false, true_or, or_true, false_or, or_false, and_self, or_self, not_false_eq_true, not_true_eq_false, false_implies, forall_const, true_implies, eq_self, ↓kI_s, ↓kJ_s, ↓kN_s, ↓kO_s, ↓kZ_s, ↓kE_s, oW_and, ↓bk_80, ↓pn_i80, oW_some, oW_none, oW_bind, oW_map, oW_ite, oW_bn, oW_gd, oW_oA, Sum.elim_inl, Sum.elim_inr, ↓kp_80_9, ↓kp_80_41]
  exact hs
set_option maxHeartbeats 4000000 in
set_option maxRecDepth 100000 in
theorem rl_80_9 {C : px_C} (hn : px_nd (px_tb C)) {h : Nat} (hh : 2 ≤ h) (hC : px_ok C pn_i80 h) {k : Option px_V → px_M → Prop} {x0 : Nat} {x1 : Int32} {σ : px_M} : ∀ s : Int32 × Int32, oW (f_80_9 (px_tb C) σ x0 x1 s.1 s.2) (fun q => k (some (.inl q.1)) q.2) → (fun s : Int32 × Int32 => ∀ (z4 : Option px_V) (z5 : Option px_V), px_W C k 9 [some (.inr (.inr (some x0))), some (.inl x1), some (.inl s.1), some (.inl s.2), z4, z5] [] σ) s := by
  intro s h0
  refine lpO_sound (P := (fun s : Int32 × Int32 => ∀ (z4 : Option px_V) (z5 : Option px_V), px_W C k 9 [some (.inr (.inr (some x0))), some (.inl x1), some (.inl s.1), some (.inl s.2), z4, z5] [] σ)) (fun s hs => ?_) h0
  obtain ⟨x2, x3⟩ := s
  intro z4 z5
  refine px_runG (h - 1) ck_80 [] [(24, kp_80_24 (fun y0 y1 y2 y3 y4 τ => y0 = x0 ∧ y1 = x1 ∧ τ = σ ∧ oW (f_80_24 (px_tb C) τ y0 y1 y3 y2 y4) (Sum.elim (fun s : Int32 × Int32 => ∀ (z4 : Option px_V) (z5 : Option px_V), px_W C k 9 [some (.inr (.inr (some x0))), some (.inl x1), some (.inl s.1), some (.inl s.2), z4, z5] [] σ) (fun q => k (some (.inl q.1)) q.2))))] 80 hC px_nosp (by omega) (px_cut1 (kq_80_24 (fun y0 y1 y2 y3 y4 τ hq => by obtain ⟨rfl, rfl, rfl, hq⟩ := hq; exact rl_80_24 hn (by omega) hC (y2, y4) hq)) px_nocut) (fun G Jf hG hJf => ?_)
  simp only [F_80_9, oW_some, oW_none, oW_bind, oW_map, oW_ite, oW_bn, oW_gd, oW_oA, Sum.elim_inl, Sum.elim_inr, oW_and, true_and, and_true, false_and, and_false, true_or, or_true, false_or, or_false, and_self, or_self, not_false_eq_true, not_true_eq_false, false_implies, forall_const, true_implies, eq_self, ↓reduceIte] at hs
  simp only [↓hG, ↓hJf, ↓px_vc, ↓px_ex, ↓px_jp, ↓px_gi, ↓px_gl, ↓px_gr, ↓px_s1, ↓px_s2, ↓px_nl, ↓px_i1, ↓px_l1, ↓px_r1_o, ↓px_q1, ↓px_i2, ↓px_l2, ↓px_il, ↓px_d0, ↓px_d1, ↓px_d2, ↓px_pop, px_sz, ↓px_sp, ↓px_rd, ↓px_rf, ↓pn_xf, ↓px_pt, ↓px_rok, ↓px_rv_o, ↓px_fill, ↓px_sl, ↓px_sw, ↓pn_SW, lc_lt, lc_ge, lc_gt, lc_le, lc_eq, ↓reduceIte, Nat.reduceEqDiff, Nat.reduceLeDiff, Nat.reduceAdd, Nat.reduceSub, reduceCtorEq, List.length_cons, List.length_nil, Option.toList_some, Option.toList_none, List.cons_append, List.nil_append, true_and, and_true, false_and, and_false, true_or, or_true, false_or, or_false, and_self, or_self, not_false_eq_true, not_true_eq_false, false_implies, forall_const, true_implies, eq_self, ↓kI_s, ↓kJ_s, ↓kN_s, ↓kO_s, ↓kZ_s, ↓kE_s, oW_and, ↓bk_80, ↓pn_i80, oW_some, oW_none, oW_bind, oW_map, oW_ite, oW_bn, oW_gd, oW_oA, Sum.elim_inl, Sum.elim_inr, ↓kp_80_24]
  exact hs
set_option maxHeartbeats 4000000 in
set_option maxRecDepth 100000 in
theorem mf_80 {tab : px_T} (hn : px_nd tab) {h : Nat} (hh : 2 ≤ h) : px_Ok tab pn_i80 h (Sg_80 (f_80 tab)) := by
  refine px_mth hn (by decide +kernel) (fun av σ k hS => ?_) (fun C hT hC av σ k hS => ?_)
  · obtain ⟨x0, av0, e0, h0⟩ := px_r1_spec hS
    obtain ⟨x1, av1, e1, h1⟩ := px_i1_spec h0
    obtain ⟨ez, hz⟩ := h1
    subst ez
    subst e1
    subst e0
    exact Nat.le_of_ble_eq_true rfl
  · obtain ⟨x0, av0, e0, h0⟩ := px_r1_spec hS
    obtain ⟨x1, av1, e1, h1⟩ := px_i1_spec h0
    obtain ⟨ez, hz⟩ := h1
    subst ez
    subst e1
    subst e0
    subst hT
    refine px_runG (h - 1) ck_80 [] [(9, kp_80_9 (fun y0 y1 y2 y3 τ => oW (f_80_9 (px_tb C) τ y0 y1 y2 y3) (fun q => k (some (.inl q.1)) q.2)))] 80 hC px_nosp (by omega) (px_cut1 (kq_80_9 (fun y0 y1 y2 y3 τ hq => by exact rl_80_9 hn (by omega) hC (y2, y3) hq)) px_nocut) (fun G Jf hG hJf => ?_)
    simp only [f_80, oW_some, oW_none, oW_bind, oW_map, oW_ite, oW_bn, oW_gd, oW_oA, Sum.elim_inl, Sum.elim_inr, oW_and, true_and, and_true, false_and, and_false, true_or, or_true, false_or, or_false, and_self, or_self, not_false_eq_true, not_true_eq_false, false_implies, forall_const, true_implies, eq_self, ↓reduceIte] at hz
    simp only [↓hG, ↓hJf, ↓px_vc, ↓px_ex, ↓px_jp, ↓px_gi, ↓px_gl, ↓px_gr, ↓px_s1, ↓px_s2, ↓px_nl, ↓px_i1, ↓px_l1, ↓px_r1_o, ↓px_q1, ↓px_i2, ↓px_l2, ↓px_il, ↓px_d0, ↓px_d1, ↓px_d2, ↓px_pop, px_sz, ↓px_sp, ↓px_rd, ↓px_rf, ↓pn_xf, ↓px_pt, ↓px_rok, ↓px_rv_o, ↓px_fill, ↓px_sl, ↓px_sw, ↓pn_SW, lc_lt, lc_ge, lc_gt, lc_le, lc_eq, ↓reduceIte, Nat.reduceEqDiff, Nat.reduceLeDiff, Nat.reduceAdd, Nat.reduceSub, reduceCtorEq, List.length_cons, List.length_nil, Option.toList_some, Option.toList_none, List.cons_append, List.nil_append, true_and, and_true, false_and, and_false, true_or, or_true, false_or, or_false, and_self, or_self, not_false_eq_true, not_true_eq_false, false_implies, forall_const, true_implies, eq_self, ↓kI_s, ↓kJ_s, ↓kN_s, ↓kO_s, ↓kZ_s, ↓kE_s, oW_and, ↓bk_80, ↓pn_i80, oW_some, oW_none, oW_bind, oW_map, oW_ite, oW_bn, oW_gd, oW_oA, Sum.elim_inl, Sum.elim_inr, ↓kp_80_9]
    exact hz
def Sg_81 (g : px_M → Nat → Option (Int32 × px_M)) : px_S := fun av σ k => px_r1 av (fun x0 av => av = [] ∧ oW (g σ x0) (fun q => k (some (.inl q.1)) q.2))
/-- NoThreeModel.fours()I -/
noncomputable def F_81_9 (tab : px_T) (σ : px_M) (x0 : Nat) (x1 : Int32) (x2 : Int32) : Option ((Int32 × Int32) ⊕ (Int32 × px_M)) := gd (px_obj (px_lay tab x0) 0) ((((σ).2.2 x0 1)).bind fun n1 => oA (px_lay tab n1) fun t2 l3 => gd (t2 = 0 ∨ t2 = 11) (gd (vp_in (nI 1) l3) (if (px_av t2 σ n1 ((nI 1)).toNatClampNeg) ≤ x2 then (gd (¬ (nI 4) = nI 0) (some (.inr (((x1 / (nI 4)), σ))))) else (gd (px_obj (px_lay tab x0) 0) ((f_34 tab σ x0 x2).bind fun r4 => some (.inl (((x1 + r4), (x2 + (nI 1))))))))))
noncomputable def f_81_9 (tab : px_T) (σ : px_M) (x0 : Nat) (x1 : Int32) (x2 : Int32) : Option (Int32 × px_M) := lpO (fun s : Int32 × Int32 => F_81_9 tab σ x0 s.1 s.2) (x1, x2)
theorem f_81_9_eq (tab : px_T) (σ : px_M) (x0 : Nat) (x1 : Int32) (x2 : Int32) : f_81_9 tab σ x0 x1 x2 = (F_81_9 tab σ x0 x1 x2).bind (Sum.elim (fun s => f_81_9 tab σ x0 s.1 s.2) some) := lpO_eq _ _
noncomputable def f_81 (tab : px_T) (σ : px_M) (x0 : Nat) : Option (Int32 × px_M) := gd (px_obj (px_lay tab x0) 0) (f_81_9 tab ((px_wi σ x0 0 (nI 0))) x0 ((nI 0)) ((nI 0)))
def kp_81_9 (Q : Nat → Int32 → Int32 → px_M → Prop) : px_P := fun ls st τ => st = [] ∧ kN ls (fun x0 ls => kI ls (fun x1 ls => kI ls (fun x2 ls => kE ls (Q x0 x1 x2 τ))))
theorem kq_81_9 {C : px_C} {k : Option px_V → px_M → Prop} {Q : Nat → Int32 → Int32 → px_M → Prop} (H : ∀ (x0 : Nat) (x1 : Int32) (x2 : Int32) (τ : px_M), Q x0 x1 x2 τ → px_W C k 9 [some (.inr (.inr (some x0))), some (.inl x1), some (.inl x2)] [] τ) : ∀ ls st τ, kp_81_9 Q ls st τ → px_W C k 9 ls st τ := by
  intro ls st τ hz
  obtain ⟨ez, h0⟩ := hz
  obtain ⟨x0, l0, e0, h1⟩ := kN_sp h0
  obtain ⟨x1, l1, e1, h2⟩ := kI_sp h1
  obtain ⟨x2, l2, e2, h3⟩ := kI_sp h2
  obtain ⟨ey, hy⟩ := kE_sp h3
  subst ez
  subst ey
  subst e2
  subst e1
  subst e0
  exact H x0 x1 x2 τ hy
set_option maxHeartbeats 4000000 in
set_option maxRecDepth 100000 in
theorem rl_81_9 {C : px_C} (hn : px_nd (px_tb C)) {h : Nat} (hh : 3 ≤ h) (hC : px_ok C pn_i81 h) {k : Option px_V → px_M → Prop} {x0 : Nat} {σ : px_M} : ∀ s : Int32 × Int32, oW (f_81_9 (px_tb C) σ x0 s.1 s.2) (fun q => k (some (.inl q.1)) q.2) → (fun s : Int32 × Int32 => px_W C k 9 [some (.inr (.inr (some x0))), some (.inl s.1), some (.inl s.2)] [] σ) s := by
  intro s h0
  refine lpO_sound (P := (fun s : Int32 × Int32 => px_W C k 9 [some (.inr (.inr (some x0))), some (.inl s.1), some (.inl s.2)] [] σ)) (fun s hs => ?_) h0
  obtain ⟨x1, x2⟩ := s
  refine px_runG (h - 1) ck_81 [(34, Sg_34 (f_34 (px_tb C)))] [(9, kp_81_9 (fun y0 y1 y2 τ => y0 = x0 ∧ τ = σ ∧ (fun s : Int32 × Int32 => px_W C k 9 [some (.inr (.inr (some x0))), some (.inl s.1), some (.inl s.2)] [] σ) (y1, y2)))] 80 hC (px_sp1 (mf_34 hn (by omega)) px_nosp) (by omega) (px_cut1 (kq_81_9 (fun y0 y1 y2 τ hq => by obtain ⟨rfl, rfl, hq⟩ := hq; exact hq)) px_nocut) (fun G Jf hG hJf => ?_)
  simp only [F_81_9, oW_some, oW_none, oW_bind, oW_map, oW_ite, oW_bn, oW_gd, oW_oA, Sum.elim_inl, Sum.elim_inr, oW_and, true_and, and_true, false_and, and_false, true_or, or_true, false_or, or_false, and_self, or_self, not_false_eq_true, not_true_eq_false, false_implies, forall_const, true_implies, eq_self, ↓reduceIte] at hs
  simp only [↓hG, ↓hJf, ↓px_vc, ↓px_ex, ↓px_jp, ↓px_gi, ↓px_gl, ↓px_gr, ↓px_s1, ↓px_s2, ↓px_nl, ↓px_i1, ↓px_l1, ↓px_r1_o, ↓px_q1, ↓px_i2, ↓px_l2, ↓px_il, ↓px_d0, ↓px_d1, ↓px_d2, ↓px_pop, px_sz, ↓px_sp, ↓px_rd, ↓px_rf, ↓pn_xf, ↓px_pt, ↓px_rok, ↓px_rv_o, ↓px_fill, ↓px_sl, ↓px_sw, ↓pn_SW, lc_lt, lc_ge, lc_gt, lc_le, lc_eq, ↓reduceIte, Nat.reduceEqDiff, Nat.reduceLeDiff, Nat.reduceAdd, Nat.reduceSub, reduceCtorEq, List.length_cons, List.length_nil, Option.toList_some, Option.toList_none, List.cons_append, List.nil_append, true_and, and_true, false_and, and_false, true_or, or_true, false_or, or_false, and_self, or_self, not_false_eq_true, not_true_eq_false, false_implies, forall_const, true_implies, eq_self, ↓kI_s, ↓kJ_s, ↓kN_s, ↓kO_s, ↓kZ_s, ↓kE_s, oW_and, ↓bk_81, ↓pn_i81, oW_some, oW_none, oW_bind, oW_map, oW_ite, oW_bn, oW_gd, oW_oA, Sum.elim_inl, Sum.elim_inr, ↓Sg_34, ↓kp_81_9]
  exact hs
set_option maxHeartbeats 4000000 in
set_option maxRecDepth 100000 in
theorem mf_81 {tab : px_T} (hn : px_nd tab) {h : Nat} (hh : 3 ≤ h) : px_Ok tab pn_i81 h (Sg_81 (f_81 tab)) := by
  refine px_mth hn (by decide +kernel) (fun av σ k hS => ?_) (fun C hT hC av σ k hS => ?_)
  · obtain ⟨x0, av0, e0, h0⟩ := px_r1_spec hS
    obtain ⟨ez, hz⟩ := h0
    subst ez
    subst e0
    exact Nat.le_of_ble_eq_true rfl
  · obtain ⟨x0, av0, e0, h0⟩ := px_r1_spec hS
    obtain ⟨ez, hz⟩ := h0
    subst ez
    subst e0
    subst hT
    refine px_runG (h - 1) ck_81 [] [(9, kp_81_9 (fun y0 y1 y2 τ => oW (f_81_9 (px_tb C) τ y0 y1 y2) (fun q => k (some (.inl q.1)) q.2)))] 80 hC px_nosp (by omega) (px_cut1 (kq_81_9 (fun y0 y1 y2 τ hq => by exact rl_81_9 hn (by omega) hC (y1, y2) hq)) px_nocut) (fun G Jf hG hJf => ?_)
    simp only [f_81, oW_some, oW_none, oW_bind, oW_map, oW_ite, oW_bn, oW_gd, oW_oA, Sum.elim_inl, Sum.elim_inr, oW_and, true_and, and_true, false_and, and_false, true_or, or_true, false_or, or_false, and_self, or_self, not_false_eq_true, not_true_eq_false, false_implies, forall_const, true_implies, eq_self, ↓reduceIte] at hz
    simp only [↓hG, ↓hJf, ↓px_vc, ↓px_ex, ↓px_jp, ↓px_gi, ↓px_gl, ↓px_gr, ↓px_s1, ↓px_s2, ↓px_nl, ↓px_i1, ↓px_l1, ↓px_r1_o, ↓px_q1, ↓px_i2, ↓px_l2, ↓px_il, ↓px_d0, ↓px_d1, ↓px_d2, ↓px_pop, px_sz, ↓px_sp, ↓px_rd, ↓px_rf, ↓pn_xf, ↓px_pt, ↓px_rok, ↓px_rv_o, ↓px_fill, ↓px_sl, ↓px_sw, ↓pn_SW, lc_lt, lc_ge, lc_gt, lc_le, lc_eq, ↓reduceIte, Nat.reduceEqDiff, Nat.reduceLeDiff, Nat.reduceAdd, Nat.reduceSub, reduceCtorEq, List.length_cons, List.length_nil, Option.toList_some, Option.toList_none, List.cons_append, List.nil_append, true_and, and_true, false_and, and_false, true_or, or_true, false_or, or_false, and_self, or_self, not_false_eq_true, not_true_eq_false, false_implies, forall_const, true_implies, eq_self, ↓kI_s, ↓kJ_s, ↓kN_s, ↓kO_s, ↓kZ_s, ↓kE_s, oW_and, ↓bk_81, ↓pn_i81, oW_some, oW_none, oW_bind, oW_map, oW_ite, oW_bn, oW_gd, oW_oA, Sum.elim_inl, Sum.elim_inr, ↓kp_81_9]
    exact hz
def Sg_82 (g : px_M → Nat → Option (Int32 × px_M)) : px_S := fun av σ k => px_r1 av (fun x0 av => av = [] ∧ oW (g σ x0) (fun q => k (some (.inl q.1)) q.2))
/-- NoThreeModel.scandal()I -/
noncomputable def f_82_113 (tab : px_T) (σ : px_M) (x0 : Nat) (x1 : Int32) (x2 : Int32) (x3 : Int32) (x4 : Int32) : Option ((Int32 × Int32) ⊕ ((Int32 × Int32) ⊕ ((Int32 × Int32 × px_M) ⊕ (Int32 × px_M)))) := some (.inl ((x1, (x4 + (nI 1)))))
noncomputable def f_82_88 (tab : px_T) (σ : px_M) (x0 : Nat) (x1 : Int32) (x2 : Int32) (x3 : Int32) (x4 : Int32) : Option ((Int32 × Int32) ⊕ ((Int32 × Int32) ⊕ ((Int32 × Int32 × px_M) ⊕ (Int32 × px_M)))) := gd (px_obj (px_lay tab x0) 0) ((((σ).2.2 x0 15)).bind fun n1 => oA (px_lay tab n1) fun t2 l3 => gd (t2 = 0 ∨ t2 = 11) (gd (vp_in x3 l3) (if x1 ≤ (((nI 2) * (px_av t2 σ n1 (x3).toNatClampNeg)) + (nI 1)) then (f_82_113 tab σ x0 x1 x2 x3 x4) else (gd (px_obj (px_lay tab x0) 0) ((((σ).2.2 x0 15)).bind fun n4 => oA (px_lay tab n4) fun t5 l6 => gd (t5 = 0 ∨ t5 = 11) (gd (vp_in x3 l6) (f_82_113 tab σ x0 ((((nI 2) * (px_av t5 σ n4 (x3).toNatClampNeg)) + (nI 1))) x2 x3 x4)))))))
noncomputable def f_82_74 (tab : px_T) (σ : px_M) (x0 : Nat) (x1 : Int32) (x2 : Int32) (x3 : Int32) (x4 : Int32) : Option ((Int32 × Int32) ⊕ ((Int32 × Int32) ⊕ ((Int32 × Int32 × px_M) ⊕ (Int32 × px_M)))) := gd (px_obj (px_lay tab x0) 0) ((f_31 tab σ x0 x3).bind fun r1 => (f_14 tab σ ((r1).toInt64) x4).bind fun r2 => if r2 = nI 0 then (f_82_113 tab σ x0 x1 x2 x3 x4) else (f_82_88 tab σ x0 x1 x2 x3 x4))
noncomputable def F_82_41 (tab : px_T) (σ : px_M) (x0 : Nat) (x2 : Int32) (x3 : Int32) (x1 : Int32) (x4 : Int32) : Option ((Int32 × Int32) ⊕ ((Int32 × Int32) ⊕ ((Int32 × Int32 × px_M) ⊕ (Int32 × px_M)))) := if x3 ≤ x4 then (some (.inr (.inl ((x1, (x3 + (nI 1))))))) else (gd (px_obj (px_lay tab x0) 0) ((((σ).2.2 x0 15)).bind fun n1 => oA (px_lay tab n1) fun t2 l3 => gd (t2 = 0 ∨ t2 = 11) (gd (vp_in x3 l3) (if (nI 99) ≤ (px_av t2 σ n1 (x3).toNatClampNeg) then (f_82_113 tab σ x0 x1 x2 x3 x4) else (gd (px_obj (px_lay tab x0) 0) ((((σ).2.2 x0 15)).bind fun n4 => oA (px_lay tab n4) fun t5 l6 => gd (t5 = 0 ∨ t5 = 11) (gd (vp_in x3 l6) (gd (px_obj (px_lay tab x0) 0) ((((σ).2.2 x0 15)).bind fun n7 => oA (px_lay tab n7) fun t8 l9 => gd (t8 = 0 ∨ t8 = 11) (gd (vp_in x4 l9) (bn ((px_av t5 σ n4 (x3).toNatClampNeg) = (px_av t8 σ n7 (x4).toNatClampNeg)) (f_82_113 tab σ x0 x1 x2 x3 x4) (f_82_74 tab σ x0 x1 x2 x3 x4))))))))))))
noncomputable def f_82_41 (tab : px_T) (σ : px_M) (x0 : Nat) (x2 : Int32) (x3 : Int32) (x1 : Int32) (x4 : Int32) : Option ((Int32 × Int32) ⊕ ((Int32 × Int32 × px_M) ⊕ (Int32 × px_M))) := lpO (fun s : Int32 × Int32 => F_82_41 tab σ x0 x2 x3 s.1 s.2) (x1, x4)
theorem f_82_41_eq (tab : px_T) (σ : px_M) (x0 : Nat) (x2 : Int32) (x3 : Int32) (x1 : Int32) (x4 : Int32) : f_82_41 tab σ x0 x2 x3 x1 x4 = (F_82_41 tab σ x0 x2 x3 x1 x4).bind (Sum.elim (fun s => f_82_41 tab σ x0 x2 x3 s.1 s.2) some) := lpO_eq _ _
noncomputable def F_82_28 (tab : px_T) (σ : px_M) (x0 : Nat) (x2 : Int32) (x1 : Int32) (x3 : Int32) : Option ((Int32 × Int32) ⊕ ((Int32 × Int32 × px_M) ⊕ (Int32 × px_M))) := gd (px_obj (px_lay tab x0) 0) ((((σ).2.2 x0 1)).bind fun n1 => oA (px_lay tab n1) fun t2 l3 => gd (t2 = 0 ∨ t2 = 11) (gd (vp_in (nI 1) l3) (if (px_av t2 σ n1 ((nI 1)).toNatClampNeg) ≤ x3 then (some (.inr (.inl ((x1, (x2 + (nI 1)), σ))))) else (f_82_41 tab σ x0 x2 x3 x1 ((nI 0))))))
noncomputable def f_82_28 (tab : px_T) (σ : px_M) (x0 : Nat) (x2 : Int32) (x1 : Int32) (x3 : Int32) : Option ((Int32 × Int32 × px_M) ⊕ (Int32 × px_M)) := lpO (fun s : Int32 × Int32 => F_82_28 tab σ x0 x2 s.1 s.2) (x1, x3)
theorem f_82_28_eq (tab : px_T) (σ : px_M) (x0 : Nat) (x2 : Int32) (x1 : Int32) (x3 : Int32) : f_82_28 tab σ x0 x2 x1 x3 = (F_82_28 tab σ x0 x2 x1 x3).bind (Sum.elim (fun s => f_82_28 tab σ x0 x2 s.1 s.2) some) := lpO_eq _ _
noncomputable def F_82_10 (tab : px_T) (x0 : Nat) (x1 : Int32) (x2 : Int32) (σ : px_M) : Option ((Int32 × Int32 × px_M) ⊕ (Int32 × px_M)) := gd (px_obj (px_lay tab x0) 0) ((((σ).2.2 x0 1)).bind fun n1 => oA (px_lay tab n1) fun t2 l3 => gd (t2 = 0 ∨ t2 = 11) (gd (vp_in (nI 1) l3) (if (px_av t2 σ n1 ((nI 1)).toNatClampNeg) ≤ x2 then (bn (x1 = (nI 99)) (some (.inr ((x1, σ)))) (some (.inr (((-1), σ))))) else (gd (px_obj (px_lay tab x0) 0) ((f_35 tab σ x0 x2).bind fun q4 => f_82_28 tab q4.2 x0 x2 x1 ((nI 0)))))))
noncomputable def f_82_10 (tab : px_T) (x0 : Nat) (x1 : Int32) (x2 : Int32) (σ : px_M) : Option (Int32 × px_M) := lpO (fun s : Int32 × Int32 × px_M => F_82_10 tab x0 s.1 s.2.1 s.2.2) (x1, x2, σ)
theorem f_82_10_eq (tab : px_T) (x0 : Nat) (x1 : Int32) (x2 : Int32) (σ : px_M) : f_82_10 tab x0 x1 x2 σ = (F_82_10 tab x0 x1 x2 σ).bind (Sum.elim (fun s => f_82_10 tab x0 s.1 s.2.1 s.2.2) some) := lpO_eq _ _
noncomputable def f_82 (tab : px_T) (σ : px_M) (x0 : Nat) : Option (Int32 × px_M) := gd (px_obj (px_lay tab x0) 0) (f_82_10 tab x0 ((nI 99)) ((nI 0)) ((px_wi σ x0 0 (nI 0))))
def kp_82_113 (Q : Nat → Int32 → Int32 → Int32 → Int32 → px_M → Prop) : px_P := fun ls st τ => st = [] ∧ kN ls (fun x0 ls => kI ls (fun x1 ls => kI ls (fun x2 ls => kI ls (fun x3 ls => kI ls (fun x4 ls => kE ls (Q x0 x1 x2 x3 x4 τ))))))
theorem kq_82_113 {C : px_C} {k : Option px_V → px_M → Prop} {Q : Nat → Int32 → Int32 → Int32 → Int32 → px_M → Prop} (H : ∀ (x0 : Nat) (x1 : Int32) (x2 : Int32) (x3 : Int32) (x4 : Int32) (τ : px_M), Q x0 x1 x2 x3 x4 τ → px_W C k 113 [some (.inr (.inr (some x0))), some (.inl x1), some (.inl x2), some (.inl x3), some (.inl x4)] [] τ) : ∀ ls st τ, kp_82_113 Q ls st τ → px_W C k 113 ls st τ := by
  intro ls st τ hz
  obtain ⟨ez, h0⟩ := hz
  obtain ⟨x0, l0, e0, h1⟩ := kN_sp h0
  obtain ⟨x1, l1, e1, h2⟩ := kI_sp h1
  obtain ⟨x2, l2, e2, h3⟩ := kI_sp h2
  obtain ⟨x3, l3, e3, h4⟩ := kI_sp h3
  obtain ⟨x4, l4, e4, h5⟩ := kI_sp h4
  obtain ⟨ey, hy⟩ := kE_sp h5
  subst ez
  subst ey
  subst e4
  subst e3
  subst e2
  subst e1
  subst e0
  exact H x0 x1 x2 x3 x4 τ hy
def kp_82_88 (Q : Nat → Int32 → Int32 → Int32 → Int32 → px_M → Prop) : px_P := fun ls st τ => st = [] ∧ kN ls (fun x0 ls => kI ls (fun x1 ls => kI ls (fun x2 ls => kI ls (fun x3 ls => kI ls (fun x4 ls => kE ls (Q x0 x1 x2 x3 x4 τ))))))
theorem kq_82_88 {C : px_C} {k : Option px_V → px_M → Prop} {Q : Nat → Int32 → Int32 → Int32 → Int32 → px_M → Prop} (H : ∀ (x0 : Nat) (x1 : Int32) (x2 : Int32) (x3 : Int32) (x4 : Int32) (τ : px_M), Q x0 x1 x2 x3 x4 τ → px_W C k 88 [some (.inr (.inr (some x0))), some (.inl x1), some (.inl x2), some (.inl x3), some (.inl x4)] [] τ) : ∀ ls st τ, kp_82_88 Q ls st τ → px_W C k 88 ls st τ := by
  intro ls st τ hz
  obtain ⟨ez, h0⟩ := hz
  obtain ⟨x0, l0, e0, h1⟩ := kN_sp h0
  obtain ⟨x1, l1, e1, h2⟩ := kI_sp h1
  obtain ⟨x2, l2, e2, h3⟩ := kI_sp h2
  obtain ⟨x3, l3, e3, h4⟩ := kI_sp h3
  obtain ⟨x4, l4, e4, h5⟩ := kI_sp h4
  obtain ⟨ey, hy⟩ := kE_sp h5
  subst ez
  subst ey
  subst e4
  subst e3
  subst e2
  subst e1
  subst e0
  exact H x0 x1 x2 x3 x4 τ hy
def kp_82_74 (Q : Nat → Int32 → Int32 → Int32 → Int32 → px_M → Prop) : px_P := fun ls st τ => st = [] ∧ kN ls (fun x0 ls => kI ls (fun x1 ls => kI ls (fun x2 ls => kI ls (fun x3 ls => kI ls (fun x4 ls => kE ls (Q x0 x1 x2 x3 x4 τ))))))
theorem kq_82_74 {C : px_C} {k : Option px_V → px_M → Prop} {Q : Nat → Int32 → Int32 → Int32 → Int32 → px_M → Prop} (H : ∀ (x0 : Nat) (x1 : Int32) (x2 : Int32) (x3 : Int32) (x4 : Int32) (τ : px_M), Q x0 x1 x2 x3 x4 τ → px_W C k 74 [some (.inr (.inr (some x0))), some (.inl x1), some (.inl x2), some (.inl x3), some (.inl x4)] [] τ) : ∀ ls st τ, kp_82_74 Q ls st τ → px_W C k 74 ls st τ := by
  intro ls st τ hz
  obtain ⟨ez, h0⟩ := hz
  obtain ⟨x0, l0, e0, h1⟩ := kN_sp h0
  obtain ⟨x1, l1, e1, h2⟩ := kI_sp h1
  obtain ⟨x2, l2, e2, h3⟩ := kI_sp h2
  obtain ⟨x3, l3, e3, h4⟩ := kI_sp h3
  obtain ⟨x4, l4, e4, h5⟩ := kI_sp h4
  obtain ⟨ey, hy⟩ := kE_sp h5
  subst ez
  subst ey
  subst e4
  subst e3
  subst e2
  subst e1
  subst e0
  exact H x0 x1 x2 x3 x4 τ hy
def kp_82_41 (Q : Nat → Int32 → Int32 → Int32 → Int32 → px_M → Prop) : px_P := fun ls st τ => st = [] ∧ kN ls (fun x0 ls => kI ls (fun x1 ls => kI ls (fun x2 ls => kI ls (fun x3 ls => kI ls (fun x4 ls => kE ls (Q x0 x1 x2 x3 x4 τ))))))
theorem kq_82_41 {C : px_C} {k : Option px_V → px_M → Prop} {Q : Nat → Int32 → Int32 → Int32 → Int32 → px_M → Prop} (H : ∀ (x0 : Nat) (x1 : Int32) (x2 : Int32) (x3 : Int32) (x4 : Int32) (τ : px_M), Q x0 x1 x2 x3 x4 τ → px_W C k 41 [some (.inr (.inr (some x0))), some (.inl x1), some (.inl x2), some (.inl x3), some (.inl x4)] [] τ) : ∀ ls st τ, kp_82_41 Q ls st τ → px_W C k 41 ls st τ := by
  intro ls st τ hz
  obtain ⟨ez, h0⟩ := hz
  obtain ⟨x0, l0, e0, h1⟩ := kN_sp h0
  obtain ⟨x1, l1, e1, h2⟩ := kI_sp h1
  obtain ⟨x2, l2, e2, h3⟩ := kI_sp h2
  obtain ⟨x3, l3, e3, h4⟩ := kI_sp h3
  obtain ⟨x4, l4, e4, h5⟩ := kI_sp h4
  obtain ⟨ey, hy⟩ := kE_sp h5
  subst ez
  subst ey
  subst e4
  subst e3
  subst e2
  subst e1
  subst e0
  exact H x0 x1 x2 x3 x4 τ hy
def kp_82_28 (Q : Nat → Int32 → Int32 → Int32 → px_M → Prop) : px_P := fun ls st τ => st = [] ∧ kN ls (fun x0 ls => kI ls (fun x1 ls => kI ls (fun x2 ls => kI ls (fun x3 ls => kZ ls (fun ls => kE ls (Q x0 x1 x2 x3 τ))))))
theorem kq_82_28 {C : px_C} {k : Option px_V → px_M → Prop} {Q : Nat → Int32 → Int32 → Int32 → px_M → Prop} (H : ∀ (x0 : Nat) (x1 : Int32) (x2 : Int32) (x3 : Int32) (τ : px_M), Q x0 x1 x2 x3 τ → ∀ (z4 : Option px_V), px_W C k 28 [some (.inr (.inr (some x0))), some (.inl x1), some (.inl x2), some (.inl x3), z4] [] τ) : ∀ ls st τ, kp_82_28 Q ls st τ → px_W C k 28 ls st τ := by
  intro ls st τ hz
  obtain ⟨ez, h0⟩ := hz
  obtain ⟨x0, l0, e0, h1⟩ := kN_sp h0
  obtain ⟨x1, l1, e1, h2⟩ := kI_sp h1
  obtain ⟨x2, l2, e2, h3⟩ := kI_sp h2
  obtain ⟨x3, l3, e3, h4⟩ := kI_sp h3
  obtain ⟨z4, l4, e4, h5⟩ := kZ_sp h4
  obtain ⟨ey, hy⟩ := kE_sp h5
  subst ez
  subst ey
  subst e4
  subst e3
  subst e2
  subst e1
  subst e0
  exact H x0 x1 x2 x3 τ hy z4
def kp_82_10 (Q : Nat → Int32 → Int32 → px_M → Prop) : px_P := fun ls st τ => st = [] ∧ kN ls (fun x0 ls => kI ls (fun x1 ls => kI ls (fun x2 ls => kZ ls (fun ls => kZ ls (fun ls => kE ls (Q x0 x1 x2 τ))))))
theorem kq_82_10 {C : px_C} {k : Option px_V → px_M → Prop} {Q : Nat → Int32 → Int32 → px_M → Prop} (H : ∀ (x0 : Nat) (x1 : Int32) (x2 : Int32) (τ : px_M), Q x0 x1 x2 τ → ∀ (z3 : Option px_V) (z4 : Option px_V), px_W C k 10 [some (.inr (.inr (some x0))), some (.inl x1), some (.inl x2), z3, z4] [] τ) : ∀ ls st τ, kp_82_10 Q ls st τ → px_W C k 10 ls st τ := by
  intro ls st τ hz
  obtain ⟨ez, h0⟩ := hz
  obtain ⟨x0, l0, e0, h1⟩ := kN_sp h0
  obtain ⟨x1, l1, e1, h2⟩ := kI_sp h1
  obtain ⟨x2, l2, e2, h3⟩ := kI_sp h2
  obtain ⟨z3, l3, e3, h4⟩ := kZ_sp h3
  obtain ⟨z4, l4, e4, h5⟩ := kZ_sp h4
  obtain ⟨ey, hy⟩ := kE_sp h5
  subst ez
  subst ey
  subst e4
  subst e3
  subst e2
  subst e1
  subst e0
  exact H x0 x1 x2 τ hy z3 z4
set_option maxHeartbeats 4000000 in
set_option maxRecDepth 100000 in
theorem rl_82_113 {C : px_C} (hn : px_nd (px_tb C)) {h : Nat} (hh : 3 ≤ h) (hC : px_ok C pn_i82 h) {k : Option px_V → px_M → Prop} {x0 : Nat} {x1 : Int32} {x2 : Int32} {x3 : Int32} {x4 : Int32} {σ : px_M} (hs : oW (f_82_113 (px_tb C) σ x0 x1 x2 x3 x4) (Sum.elim (fun s : Int32 × Int32 => px_W C k 41 [some (.inr (.inr (some x0))), some (.inl s.1), some (.inl x2), some (.inl x3), some (.inl s.2)] [] σ) (Sum.elim (fun s : Int32 × Int32 => ∀ (z4 : Option px_V), px_W C k 28 [some (.inr (.inr (some x0))), some (.inl s.1), some (.inl x2), some (.inl s.2), z4] [] σ) (Sum.elim (fun s : Int32 × Int32 × px_M => ∀ (z3 : Option px_V) (z4 : Option px_V), px_W C k 10 [some (.inr (.inr (some x0))), some (.inl s.1), some (.inl s.2.1), z3, z4] [] s.2.2) (fun q => k (some (.inl q.1)) q.2))))) : px_W C k 113 [some (.inr (.inr (some x0))), some (.inl x1), some (.inl x2), some (.inl x3), some (.inl x4)] [] σ := by
  refine px_runG (h - 1) ck_82 [] [(41, kp_82_41 (fun y0 y1 y2 y3 y4 τ => y0 = x0 ∧ y2 = x2 ∧ y3 = x3 ∧ τ = σ ∧ (fun s : Int32 × Int32 => px_W C k 41 [some (.inr (.inr (some x0))), some (.inl s.1), some (.inl x2), some (.inl x3), some (.inl s.2)] [] σ) (y1, y4)))] 80 hC px_nosp (by omega) (px_cut1 (kq_82_41 (fun y0 y1 y2 y3 y4 τ hq => by obtain ⟨rfl, rfl, rfl, rfl, hq⟩ := hq; exact hq)) px_nocut) (fun G Jf hG hJf => ?_)
  simp only [f_82_113, oW_some, oW_none, oW_bind, oW_map, oW_ite, oW_bn, oW_gd, oW_oA, Sum.elim_inl, Sum.elim_inr, oW_and, true_and, and_true, false_and, and_false, true_or, or_true, false_or, or_false, and_self, or_self, not_false_eq_true, not_true_eq_false, false_implies, forall_const, true_implies, eq_self, ↓reduceIte] at hs
  simp only [↓hG, ↓hJf, ↓px_vc, ↓px_ex, ↓px_jp, ↓px_gi, ↓px_gl, ↓px_gr, ↓px_s1, ↓px_s2, ↓px_nl, ↓px_i1, ↓px_l1, ↓px_r1_o, ↓px_q1, ↓px_i2, ↓px_l2, ↓px_il, ↓px_d0, ↓px_d1, ↓px_d2, ↓px_pop, px_sz, ↓px_sp, ↓px_rd, ↓px_rf, ↓pn_xf, ↓px_pt, ↓px_rok, ↓px_rv_o, ↓px_fill, ↓px_sl, ↓px_sw, ↓pn_SW, lc_lt, lc_ge, lc_gt, lc_le, lc_eq, ↓reduceIte, Nat.reduceEqDiff, Nat.reduceLeDiff, Nat.reduceAdd, Nat.reduceSub, reduceCtorEq, List.length_cons, List.length_nil, Option.toList_some, Option.toList_none, List.cons_append, List.nil_append, true_and, and_true, false_and, and_false, true_or, or_true, false_or, or_false, and_self, or_self, not_false_eq_true, not_true_eq_false, false_implies, forall_const, true_implies, eq_self, ↓kI_s, ↓kJ_s, ↓kN_s, ↓kO_s, ↓kZ_s, ↓kE_s, oW_and, ↓bk_82, ↓pn_i82, oW_some, oW_none, oW_bind, oW_map, oW_ite, oW_bn, oW_gd, oW_oA, Sum.elim_inl, Sum.elim_inr, ↓kp_82_41]
  exact hs
set_option maxHeartbeats 4000000 in
set_option maxRecDepth 100000 in
theorem rl_82_88 {C : px_C} (hn : px_nd (px_tb C)) {h : Nat} (hh : 3 ≤ h) (hC : px_ok C pn_i82 h) {k : Option px_V → px_M → Prop} {x0 : Nat} {x1 : Int32} {x2 : Int32} {x3 : Int32} {x4 : Int32} {σ : px_M} (hs : oW (f_82_88 (px_tb C) σ x0 x1 x2 x3 x4) (Sum.elim (fun s : Int32 × Int32 => px_W C k 41 [some (.inr (.inr (some x0))), some (.inl s.1), some (.inl x2), some (.inl x3), some (.inl s.2)] [] σ) (Sum.elim (fun s : Int32 × Int32 => ∀ (z4 : Option px_V), px_W C k 28 [some (.inr (.inr (some x0))), some (.inl s.1), some (.inl x2), some (.inl s.2), z4] [] σ) (Sum.elim (fun s : Int32 × Int32 × px_M => ∀ (z3 : Option px_V) (z4 : Option px_V), px_W C k 10 [some (.inr (.inr (some x0))), some (.inl s.1), some (.inl s.2.1), z3, z4] [] s.2.2) (fun q => k (some (.inl q.1)) q.2))))) : px_W C k 88 [some (.inr (.inr (some x0))), some (.inl x1), some (.inl x2), some (.inl x3), some (.inl x4)] [] σ := by
  refine px_runG (h - 1) ck_82 [] [(113, kp_82_113 (fun y0 y1 y2 y3 y4 τ => y0 = x0 ∧ y2 = x2 ∧ y3 = x3 ∧ τ = σ ∧ oW (f_82_113 (px_tb C) τ y0 y1 y2 y3 y4) (Sum.elim (fun s : Int32 × Int32 => px_W C k 41 [some (.inr (.inr (some x0))), some (.inl s.1), some (.inl x2), some (.inl x3), some (.inl s.2)] [] σ) (Sum.elim (fun s : Int32 × Int32 => ∀ (z4 : Option px_V), px_W C k 28 [some (.inr (.inr (some x0))), some (.inl s.1), some (.inl x2), some (.inl s.2), z4] [] σ) (Sum.elim (fun s : Int32 × Int32 × px_M => ∀ (z3 : Option px_V) (z4 : Option px_V), px_W C k 10 [some (.inr (.inr (some x0))), some (.inl s.1), some (.inl s.2.1), z3, z4] [] s.2.2) (fun q => k (some (.inl q.1)) q.2))))))] 80 hC px_nosp (by omega) (px_cut1 (kq_82_113 (fun y0 y1 y2 y3 y4 τ hq => by obtain ⟨rfl, rfl, rfl, rfl, hq⟩ := hq; exact rl_82_113 hn (by omega) hC  hq)) px_nocut) (fun G Jf hG hJf => ?_)
  simp only [f_82_88, oW_some, oW_none, oW_bind, oW_map, oW_ite, oW_bn, oW_gd, oW_oA, Sum.elim_inl, Sum.elim_inr, oW_and, true_and, and_true, false_and, and_false, true_or, or_true, false_or, or_false, and_self, or_self, not_false_eq_true, not_true_eq_false, false_implies, forall_const, true_implies, eq_self, ↓reduceIte] at hs
  simp only [↓hG, ↓hJf, ↓px_vc, ↓px_ex, ↓px_jp, ↓px_gi, ↓px_gl, ↓px_gr, ↓px_s1, ↓px_s2, ↓px_nl, ↓px_i1, ↓px_l1, ↓px_r1_o, ↓px_q1, ↓px_i2, ↓px_l2, ↓px_il, ↓px_d0, ↓px_d1, ↓px_d2, ↓px_pop, px_sz, ↓px_sp, ↓px_rd, ↓px_rf, ↓pn_xf, ↓px_pt, ↓px_rok, ↓px_rv_o, ↓px_fill, ↓px_sl, ↓px_sw, ↓pn_SW, lc_lt, lc_ge, lc_gt, lc_le, lc_eq, ↓reduceIte, Nat.reduceEqDiff, Nat.reduceLeDiff, Nat.reduceAdd, Nat.reduceSub, reduceCtorEq, List.length_cons, List.length_nil, Option.toList_some, Option.toList_none, List.cons_append, List.nil_append, true_and, and_true, false_and, and_false, true_or, or_true, false_or, or_false, and_self, or_self, not_false_eq_true, not_true_eq_false, false_implies, forall_const, true_implies, eq_self, ↓kI_s, ↓kJ_s, ↓kN_s, ↓kO_s, ↓kZ_s, ↓kE_s, oW_and, ↓bk_82, ↓pn_i82, oW_some, oW_none, oW_bind, oW_map, oW_ite, oW_bn, oW_gd, oW_oA, Sum.elim_inl, Sum.elim_inr, ↓kp_82_113]
  exact hs
set_option maxHeartbeats 4000000 in
set_option maxRecDepth 100000 in
theorem rl_82_74 {C : px_C} (hn : px_nd (px_tb C)) {h : Nat} (hh : 3 ≤ h) (hC : px_ok C pn_i82 h) {k : Option px_V → px_M → Prop} {x0 : Nat} {x1 : Int32} {x2 : Int32} {x3 : Int32} {x4 : Int32} {σ : px_M} (hs : oW (f_82_74 (px_tb C) σ x0 x1 x2 x3 x4) (Sum.elim (fun s : Int32 × Int32 => px_W C k 41 [some (.inr (.inr (some x0))), some (.inl s.1), some (.inl x2), some (.inl x3), some (.inl s.2)] [] σ) (Sum.elim (fun s : Int32 × Int32 => ∀ (z4 : Option px_V), px_W C k 28 [some (.inr (.inr (some x0))), some (.inl s.1), some (.inl x2), some (.inl s.2), z4] [] σ) (Sum.elim (fun s : Int32 × Int32 × px_M => ∀ (z3 : Option px_V) (z4 : Option px_V), px_W C k 10 [some (.inr (.inr (some x0))), some (.inl s.1), some (.inl s.2.1), z3, z4] [] s.2.2) (fun q => k (some (.inl q.1)) q.2))))) : px_W C k 74 [some (.inr (.inr (some x0))), some (.inl x1), some (.inl x2), some (.inl x3), some (.inl x4)] [] σ := by
  refine px_runG (h - 1) ck_82 [(14, Sg_14 (f_14 (px_tb C))), (31, Sg_31 (f_31 (px_tb C)))] [(88, kp_82_88 (fun y0 y1 y2 y3 y4 τ => y0 = x0 ∧ y2 = x2 ∧ y3 = x3 ∧ τ = σ ∧ oW (f_82_88 (px_tb C) τ y0 y1 y2 y3 y4) (Sum.elim (fun s : Int32 × Int32 => px_W C k 41 [some (.inr (.inr (some x0))), some (.inl s.1), some (.inl x2), some (.inl x3), some (.inl s.2)] [] σ) (Sum.elim (fun s : Int32 × Int32 => ∀ (z4 : Option px_V), px_W C k 28 [some (.inr (.inr (some x0))), some (.inl s.1), some (.inl x2), some (.inl s.2), z4] [] σ) (Sum.elim (fun s : Int32 × Int32 × px_M => ∀ (z3 : Option px_V) (z4 : Option px_V), px_W C k 10 [some (.inr (.inr (some x0))), some (.inl s.1), some (.inl s.2.1), z3, z4] [] s.2.2) (fun q => k (some (.inl q.1)) q.2)))))), (113, kp_82_113 (fun y0 y1 y2 y3 y4 τ => y0 = x0 ∧ y2 = x2 ∧ y3 = x3 ∧ τ = σ ∧ oW (f_82_113 (px_tb C) τ y0 y1 y2 y3 y4) (Sum.elim (fun s : Int32 × Int32 => px_W C k 41 [some (.inr (.inr (some x0))), some (.inl s.1), some (.inl x2), some (.inl x3), some (.inl s.2)] [] σ) (Sum.elim (fun s : Int32 × Int32 => ∀ (z4 : Option px_V), px_W C k 28 [some (.inr (.inr (some x0))), some (.inl s.1), some (.inl x2), some (.inl s.2), z4] [] σ) (Sum.elim (fun s : Int32 × Int32 × px_M => ∀ (z3 : Option px_V) (z4 : Option px_V), px_W C k 10 [some (.inr (.inr (some x0))), some (.inl s.1), some (.inl s.2.1), z3, z4] [] s.2.2) (fun q => k (some (.inl q.1)) q.2))))))] 80 hC (px_sp1 (mf_14 hn (by omega)) (px_sp1 (mf_31 hn (by omega)) px_nosp)) (by omega) (px_cut1 (kq_82_88 (fun y0 y1 y2 y3 y4 τ hq => by obtain ⟨rfl, rfl, rfl, rfl, hq⟩ := hq; exact rl_82_88 hn (by omega) hC  hq)) (px_cut1 (kq_82_113 (fun y0 y1 y2 y3 y4 τ hq => by obtain ⟨rfl, rfl, rfl, rfl, hq⟩ := hq; exact rl_82_113 hn (by omega) hC  hq)) px_nocut)) (fun G Jf hG hJf => ?_)
  simp only [f_82_74, oW_some, oW_none, oW_bind, oW_map, oW_ite, oW_bn, oW_gd, oW_oA, Sum.elim_inl, Sum.elim_inr, oW_and, true_and, and_true, false_and, and_false, true_or, or_true, false_or, or_false, and_self, or_self, not_false_eq_true, not_true_eq_false, false_implies, forall_const, true_implies, eq_self, ↓reduceIte] at hs
  simp only [↓hG, ↓hJf, ↓px_vc, ↓px_ex, ↓px_jp, ↓px_gi, ↓px_gl, ↓px_gr, ↓px_s1, ↓px_s2, ↓px_nl, ↓px_i1, ↓px_l1, ↓px_r1_o, ↓px_q1, ↓px_i2, ↓px_l2, ↓px_il, ↓px_d0, ↓px_d1, ↓px_d2, ↓px_pop, px_sz, ↓px_sp, ↓px_rd, ↓px_rf, ↓pn_xf, ↓px_pt, ↓px_rok, ↓px_rv_o, ↓px_fill, ↓px_sl, ↓px_sw, ↓pn_SW, lc_lt, lc_ge, lc_gt, lc_le, lc_eq, ↓reduceIte, Nat.reduceEqDiff, Nat.reduceLeDiff, Nat.reduceAdd, Nat.reduceSub, reduceCtorEq, List.length_cons, List.length_nil, Option.toList_some, Option.toList_none, List.cons_append, List.nil_append, true_and, and_true, false_and, and_false, true_or, or_true, false_or, or_false, and_self, or_self, not_false_eq_true, not_true_eq_false, false_implies, forall_const, true_implies, eq_self, ↓kI_s, ↓kJ_s, ↓kN_s, ↓kO_s, ↓kZ_s, ↓kE_s, oW_and, ↓bk_82, ↓pn_i82, oW_some, oW_none, oW_bind, oW_map, oW_ite, oW_bn, oW_gd, oW_oA, Sum.elim_inl, Sum.elim_inr, ↓Sg_14, ↓Sg_31, ↓kp_82_88, ↓kp_82_113]
  exact hs
set_option maxHeartbeats 4000000 in
set_option maxRecDepth 100000 in
theorem rl_82_41 {C : px_C} (hn : px_nd (px_tb C)) {h : Nat} (hh : 3 ≤ h) (hC : px_ok C pn_i82 h) {k : Option px_V → px_M → Prop} {x0 : Nat} {x2 : Int32} {x3 : Int32} {σ : px_M} : ∀ s : Int32 × Int32, oW (f_82_41 (px_tb C) σ x0 x2 x3 s.1 s.2) (Sum.elim (fun s : Int32 × Int32 => ∀ (z4 : Option px_V), px_W C k 28 [some (.inr (.inr (some x0))), some (.inl s.1), some (.inl x2), some (.inl s.2), z4] [] σ) (Sum.elim (fun s : Int32 × Int32 × px_M => ∀ (z3 : Option px_V) (z4 : Option px_V), px_W C k 10 [some (.inr (.inr (some x0))), some (.inl s.1), some (.inl s.2.1), z3, z4] [] s.2.2) (fun q => k (some (.inl q.1)) q.2))) → (fun s : Int32 × Int32 => px_W C k 41 [some (.inr (.inr (some x0))), some (.inl s.1), some (.inl x2), some (.inl x3), some (.inl s.2)] [] σ) s := by
  intro s h0
  refine lpO_sound (P := (fun s : Int32 × Int32 => px_W C k 41 [some (.inr (.inr (some x0))), some (.inl s.1), some (.inl x2), some (.inl x3), some (.inl s.2)] [] σ)) (fun s hs => ?_) h0
  obtain ⟨x1, x4⟩ := s
  refine px_runG (h - 1) ck_82 [] [(28, kp_82_28 (fun y0 y1 y2 y3 τ => y0 = x0 ∧ y2 = x2 ∧ τ = σ ∧ (fun s : Int32 × Int32 => ∀ (z4 : Option px_V), px_W C k 28 [some (.inr (.inr (some x0))), some (.inl s.1), some (.inl x2), some (.inl s.2), z4] [] σ) (y1, y3))), (74, kp_82_74 (fun y0 y1 y2 y3 y4 τ => y0 = x0 ∧ y2 = x2 ∧ y3 = x3 ∧ τ = σ ∧ oW (f_82_74 (px_tb C) τ y0 y1 y2 y3 y4) (Sum.elim (fun s : Int32 × Int32 => px_W C k 41 [some (.inr (.inr (some x0))), some (.inl s.1), some (.inl x2), some (.inl x3), some (.inl s.2)] [] σ) (Sum.elim (fun s : Int32 × Int32 => ∀ (z4 : Option px_V), px_W C k 28 [some (.inr (.inr (some x0))), some (.inl s.1), some (.inl x2), some (.inl s.2), z4] [] σ) (Sum.elim (fun s : Int32 × Int32 × px_M => ∀ (z3 : Option px_V) (z4 : Option px_V), px_W C k 10 [some (.inr (.inr (some x0))), some (.inl s.1), some (.inl s.2.1), z3, z4] [] s.2.2) (fun q => k (some (.inl q.1)) q.2)))))), (113, kp_82_113 (fun y0 y1 y2 y3 y4 τ => y0 = x0 ∧ y2 = x2 ∧ y3 = x3 ∧ τ = σ ∧ oW (f_82_113 (px_tb C) τ y0 y1 y2 y3 y4) (Sum.elim (fun s : Int32 × Int32 => px_W C k 41 [some (.inr (.inr (some x0))), some (.inl s.1), some (.inl x2), some (.inl x3), some (.inl s.2)] [] σ) (Sum.elim (fun s : Int32 × Int32 => ∀ (z4 : Option px_V), px_W C k 28 [some (.inr (.inr (some x0))), some (.inl s.1), some (.inl x2), some (.inl s.2), z4] [] σ) (Sum.elim (fun s : Int32 × Int32 × px_M => ∀ (z3 : Option px_V) (z4 : Option px_V), px_W C k 10 [some (.inr (.inr (some x0))), some (.inl s.1), some (.inl s.2.1), z3, z4] [] s.2.2) (fun q => k (some (.inl q.1)) q.2))))))] 80 hC px_nosp (by omega) (px_cut1 (kq_82_28 (fun y0 y1 y2 y3 τ hq => by obtain ⟨rfl, rfl, rfl, hq⟩ := hq; exact hq)) (px_cut1 (kq_82_74 (fun y0 y1 y2 y3 y4 τ hq => by obtain ⟨rfl, rfl, rfl, rfl, hq⟩ := hq; exact rl_82_74 hn (by omega) hC  hq)) (px_cut1 (kq_82_113 (fun y0 y1 y2 y3 y4 τ hq => by obtain ⟨rfl, rfl, rfl, rfl, hq⟩ := hq; exact rl_82_113 hn (by omega) hC  hq)) px_nocut))) (fun G Jf hG hJf => ?_)
  simp only [F_82_41, oW_some, oW_none, oW_bind, oW_map, oW_ite, oW_bn, oW_gd, oW_oA, Sum.elim_inl, Sum.elim_inr, oW_and, true_and, and_true, false_and, and_false, true_or, or_true, false_or, or_false, and_self, or_self, not_false_eq_true, not_true_eq_false, false_implies, forall_const, true_implies, eq_self, ↓reduceIte] at hs
  simp only [↓hG, ↓hJf, ↓px_vc, ↓px_ex, ↓px_jp, ↓px_gi, ↓px_gl, ↓px_gr, ↓px_s1, ↓px_s2, ↓px_nl, ↓px_i1, ↓px_l1, ↓px_r1_o, ↓px_q1, ↓px_i2, ↓px_l2, ↓px_il, ↓px_d0, ↓px_d1, ↓px_d2, ↓px_pop, px_sz, ↓px_sp, ↓px_rd, ↓px_rf, ↓pn_xf, ↓px_pt, ↓px_rok, ↓px_rv_o, ↓px_fill, ↓px_sl, ↓px_sw, ↓pn_SW, lc_lt, lc_ge, lc_gt, lc_le, lc_eq, ↓reduceIte, Nat.reduceEqDiff, Nat.reduceLeDiff, Nat.reduceAdd, Nat.reduceSub, reduceCtorEq, List.length_cons, List.length_nil, Option.toList_some, Option.toList_none, List.cons_append, List.nil_append, true_and, and_true, false_and, and_false, true_or, or_true, false_or, or_false, and_self, or_self, not_false_eq_true, not_true_eq_false, false_implies, forall_const, true_implies, eq_self, ↓kI_s, ↓kJ_s, ↓kN_s, ↓kO_s, ↓kZ_s, ↓kE_s, oW_and, ↓bk_82, ↓pn_i82, oW_some, oW_none, oW_bind, oW_map, oW_ite, oW_bn, oW_gd, oW_oA, Sum.elim_inl, Sum.elim_inr, ↓kp_82_28, ↓kp_82_74, ↓kp_82_113]
  exact hs
set_option maxHeartbeats 4000000 in
set_option maxRecDepth 100000 in
theorem rl_82_28 {C : px_C} (hn : px_nd (px_tb C)) {h : Nat} (hh : 3 ≤ h) (hC : px_ok C pn_i82 h) {k : Option px_V → px_M → Prop} {x0 : Nat} {x2 : Int32} {σ : px_M} : ∀ s : Int32 × Int32, oW (f_82_28 (px_tb C) σ x0 x2 s.1 s.2) (Sum.elim (fun s : Int32 × Int32 × px_M => ∀ (z3 : Option px_V) (z4 : Option px_V), px_W C k 10 [some (.inr (.inr (some x0))), some (.inl s.1), some (.inl s.2.1), z3, z4] [] s.2.2) (fun q => k (some (.inl q.1)) q.2)) → (fun s : Int32 × Int32 => ∀ (z4 : Option px_V), px_W C k 28 [some (.inr (.inr (some x0))), some (.inl s.1), some (.inl x2), some (.inl s.2), z4] [] σ) s := by
  intro s h0
  refine lpO_sound (P := (fun s : Int32 × Int32 => ∀ (z4 : Option px_V), px_W C k 28 [some (.inr (.inr (some x0))), some (.inl s.1), some (.inl x2), some (.inl s.2), z4] [] σ)) (fun s hs => ?_) h0
  obtain ⟨x1, x3⟩ := s
  intro z4
  refine px_runG (h - 1) ck_82 [] [(10, kp_82_10 (fun y0 y1 y2 τ => y0 = x0 ∧ (fun s : Int32 × Int32 × px_M => ∀ (z3 : Option px_V) (z4 : Option px_V), px_W C k 10 [some (.inr (.inr (some x0))), some (.inl s.1), some (.inl s.2.1), z3, z4] [] s.2.2) (y1, y2, τ))), (41, kp_82_41 (fun y0 y1 y2 y3 y4 τ => y0 = x0 ∧ y2 = x2 ∧ τ = σ ∧ oW (f_82_41 (px_tb C) τ y0 y2 y3 y1 y4) (Sum.elim (fun s : Int32 × Int32 => ∀ (z4 : Option px_V), px_W C k 28 [some (.inr (.inr (some x0))), some (.inl s.1), some (.inl x2), some (.inl s.2), z4] [] σ) (Sum.elim (fun s : Int32 × Int32 × px_M => ∀ (z3 : Option px_V) (z4 : Option px_V), px_W C k 10 [some (.inr (.inr (some x0))), some (.inl s.1), some (.inl s.2.1), z3, z4] [] s.2.2) (fun q => k (some (.inl q.1)) q.2)))))] 80 hC px_nosp (by omega) (px_cut1 (kq_82_10 (fun y0 y1 y2 τ hq => by obtain ⟨rfl, hq⟩ := hq; exact hq)) (px_cut1 (kq_82_41 (fun y0 y1 y2 y3 y4 τ hq => by obtain ⟨rfl, rfl, rfl, hq⟩ := hq; exact rl_82_41 hn (by omega) hC (y1, y4) hq)) px_nocut)) (fun G Jf hG hJf => ?_)
  simp only [F_82_28, oW_some, oW_none, oW_bind, oW_map, oW_ite, oW_bn, oW_gd, oW_oA, Sum.elim_inl, Sum.elim_inr, oW_and, true_and, and_true, false_and, and_false, true_or, or_true, false_or, or_false, and_self, or_self, not_false_eq_true, not_true_eq_false, false_implies, forall_const, true_implies, eq_self, ↓reduceIte] at hs
  simp only [↓hG, ↓hJf, ↓px_vc, ↓px_ex, ↓px_jp, ↓px_gi, ↓px_gl, ↓px_gr, ↓px_s1, ↓px_s2, ↓px_nl, ↓px_i1, ↓px_l1, ↓px_r1_o, ↓px_q1, ↓px_i2, ↓px_l2, ↓px_il, ↓px_d0, ↓px_d1, ↓px_d2, ↓px_pop, px_sz, ↓px_sp, ↓px_rd, ↓px_rf, ↓pn_xf, ↓px_pt, ↓px_rok, ↓px_rv_o, ↓px_fill, ↓px_sl, ↓px_sw, ↓pn_SW, lc_lt, lc_ge, lc_gt, lc_le, lc_eq, ↓reduceIte, Nat.reduceEqDiff, Nat.reduceLeDiff, Nat.reduceAdd, Nat.reduceSub, reduceCtorEq, List.length_cons, List.length_nil, Option.toList_some, Option.toList_none, List.cons_append, List.nil_append, true_and, and_true, false_and, and_false, true_or, or_true, false_or, or_false, and_self, or_self, not_false_eq_true, not_true_eq_false, false_implies, forall_const, true_implies, eq_self, ↓kI_s, ↓kJ_s, ↓kN_s, ↓kO_s, ↓kZ_s, ↓kE_s, oW_and, ↓bk_82, ↓pn_i82, oW_some, oW_none, oW_bind, oW_map, oW_ite, oW_bn, oW_gd, oW_oA, Sum.elim_inl, Sum.elim_inr, ↓kp_82_10, ↓kp_82_41]
  exact hs
set_option maxHeartbeats 4000000 in
set_option maxRecDepth 100000 in
theorem rl_82_10 {C : px_C} (hn : px_nd (px_tb C)) {h : Nat} (hh : 3 ≤ h) (hC : px_ok C pn_i82 h) {k : Option px_V → px_M → Prop} {x0 : Nat} : ∀ s : Int32 × Int32 × px_M, oW (f_82_10 (px_tb C) x0 s.1 s.2.1 s.2.2) (fun q => k (some (.inl q.1)) q.2) → (fun s : Int32 × Int32 × px_M => ∀ (z3 : Option px_V) (z4 : Option px_V), px_W C k 10 [some (.inr (.inr (some x0))), some (.inl s.1), some (.inl s.2.1), z3, z4] [] s.2.2) s := by
  intro s h0
  refine lpO_sound (P := (fun s : Int32 × Int32 × px_M => ∀ (z3 : Option px_V) (z4 : Option px_V), px_W C k 10 [some (.inr (.inr (some x0))), some (.inl s.1), some (.inl s.2.1), z3, z4] [] s.2.2)) (fun s hs => ?_) h0
  obtain ⟨x1, x2, σ⟩ := s
  intro z3 z4
  refine px_runG (h - 1) ck_82 [(35, Sg_35 (f_35 (px_tb C)))] [(28, kp_82_28 (fun y0 y1 y2 y3 τ => y0 = x0 ∧ oW (f_82_28 (px_tb C) τ y0 y2 y1 y3) (Sum.elim (fun s : Int32 × Int32 × px_M => ∀ (z3 : Option px_V) (z4 : Option px_V), px_W C k 10 [some (.inr (.inr (some x0))), some (.inl s.1), some (.inl s.2.1), z3, z4] [] s.2.2) (fun q => k (some (.inl q.1)) q.2))))] 80 hC (px_sp1 (mf_35 hn (by omega)) px_nosp) (by omega) (px_cut1 (kq_82_28 (fun y0 y1 y2 y3 τ hq => by obtain ⟨rfl, hq⟩ := hq; exact rl_82_28 hn (by omega) hC (y1, y3) hq)) px_nocut) (fun G Jf hG hJf => ?_)
  simp only [F_82_10, oW_some, oW_none, oW_bind, oW_map, oW_ite, oW_bn, oW_gd, oW_oA, Sum.elim_inl, Sum.elim_inr, oW_and, true_and, and_true, false_and, and_false, true_or, or_true, false_or, or_false, and_self, or_self, not_false_eq_true, not_true_eq_false, false_implies, forall_const, true_implies, eq_self, ↓reduceIte] at hs
  simp only [↓hG, ↓hJf, ↓px_vc, ↓px_ex, ↓px_jp, ↓px_gi, ↓px_gl, ↓px_gr, ↓px_s1, ↓px_s2, ↓px_nl, ↓px_i1, ↓px_l1, ↓px_r1_o, ↓px_q1, ↓px_i2, ↓px_l2, ↓px_il, ↓px_d0, ↓px_d1, ↓px_d2, ↓px_pop, px_sz, ↓px_sp, ↓px_rd, ↓px_rf, ↓pn_xf, ↓px_pt, ↓px_rok, ↓px_rv_o, ↓px_fill, ↓px_sl, ↓px_sw, ↓pn_SW, lc_lt, lc_ge, lc_gt, lc_le, lc_eq, ↓reduceIte, Nat.reduceEqDiff, Nat.reduceLeDiff, Nat.reduceAdd, Nat.reduceSub, reduceCtorEq, List.length_cons, List.length_nil, Option.toList_some, Option.toList_none, List.cons_append, List.nil_append, true_and, and_true, false_and, and_false, true_or, or_true, false_or, or_false, and_self, or_self, not_false_eq_true, not_true_eq_false, false_implies, forall_const, true_implies, eq_self, ↓kI_s, ↓kJ_s, ↓kN_s, ↓kO_s, ↓kZ_s, ↓kE_s, oW_and, ↓bk_82, ↓pn_i82, oW_some, oW_none, oW_bind, oW_map, oW_ite, oW_bn, oW_gd, oW_oA, Sum.elim_inl, Sum.elim_inr, ↓Sg_35, ↓kp_82_28]
  exact hs
set_option maxHeartbeats 4000000 in
set_option maxRecDepth 100000 in
theorem mf_82 {tab : px_T} (hn : px_nd tab) {h : Nat} (hh : 3 ≤ h) : px_Ok tab pn_i82 h (Sg_82 (f_82 tab)) := by
  refine px_mth hn (by decide +kernel) (fun av σ k hS => ?_) (fun C hT hC av σ k hS => ?_)
  · obtain ⟨x0, av0, e0, h0⟩ := px_r1_spec hS
    obtain ⟨ez, hz⟩ := h0
    subst ez
    subst e0
    exact Nat.le_of_ble_eq_true rfl
  · obtain ⟨x0, av0, e0, h0⟩ := px_r1_spec hS
    obtain ⟨ez, hz⟩ := h0
    subst ez
    subst e0
    subst hT
    refine px_runG (h - 1) ck_82 [] [(10, kp_82_10 (fun y0 y1 y2 τ => oW (f_82_10 (px_tb C) y0 y1 y2 τ) (fun q => k (some (.inl q.1)) q.2)))] 80 hC px_nosp (by omega) (px_cut1 (kq_82_10 (fun y0 y1 y2 τ hq => by exact rl_82_10 hn (by omega) hC (y1, y2, τ) hq)) px_nocut) (fun G Jf hG hJf => ?_)
    simp only [f_82, oW_some, oW_none, oW_bind, oW_map, oW_ite, oW_bn, oW_gd, oW_oA, Sum.elim_inl, Sum.elim_inr, oW_and, true_and, and_true, false_and, and_false, true_or, or_true, false_or, or_false, and_self, or_self, not_false_eq_true, not_true_eq_false, false_implies, forall_const, true_implies, eq_self, ↓reduceIte] at hz
    simp only [↓hG, ↓hJf, ↓px_vc, ↓px_ex, ↓px_jp, ↓px_gi, ↓px_gl, ↓px_gr, ↓px_s1, ↓px_s2, ↓px_nl, ↓px_i1, ↓px_l1, ↓px_r1_o, ↓px_q1, ↓px_i2, ↓px_l2, ↓px_il, ↓px_d0, ↓px_d1, ↓px_d2, ↓px_pop, px_sz, ↓px_sp, ↓px_rd, ↓px_rf, ↓pn_xf, ↓px_pt, ↓px_rok, ↓px_rv_o, ↓px_fill, ↓px_sl, ↓px_sw, ↓pn_SW, lc_lt, lc_ge, lc_gt, lc_le, lc_eq, ↓reduceIte, Nat.reduceEqDiff, Nat.reduceLeDiff, Nat.reduceAdd, Nat.reduceSub, reduceCtorEq, List.length_cons, List.length_nil, Option.toList_some, Option.toList_none, List.cons_append, List.nil_append, true_and, and_true, false_and, and_false, true_or, or_true, false_or, or_false, and_self, or_self, not_false_eq_true, not_true_eq_false, false_implies, forall_const, true_implies, eq_self, ↓kI_s, ↓kJ_s, ↓kN_s, ↓kO_s, ↓kZ_s, ↓kE_s, oW_and, ↓bk_82, ↓pn_i82, oW_some, oW_none, oW_bind, oW_map, oW_ite, oW_bn, oW_gd, oW_oA, Sum.elim_inl, Sum.elim_inr, ↓kp_82_10]
    exact hz
