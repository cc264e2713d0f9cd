/-! shallow functions, printed by wip/whole/decomp.py -/
def Sg_11031 (g : px_M → Nat → Int32 → Option (Int32)) : px_S := fun av σ k => av_0 av (fun x0 av => ai_1 av (fun x1 av => av = [] ∧ oW (g σ x0 x1) (fun r => k (some (.inl r)) σ)))
/-- NoThree$Town.firstHalf(I)I -/
noncomputable def f_11031_113 (tab : px_T) (σ : px_M) (x0 : Nat) (x1 : Int32) (x2 : Int32) (x3 : Int32) (x4 : Int32) (x6 : Int32) : Option ((Int32 × Int32 × Int32) ⊕ (Int32)) := some (.inl ((x2, (x3 ||| x6), (x4 + (nI 1)))))
noncomputable def f_11031_92 (tab : px_T) (σ : px_M) (x0 : Nat) (x1 : Int32) (x2 : Int32) (x3 : Int32) (x4 : Int32) (x5 : Int32) (x6 : Int32) (x7 : Int32) : Option ((Int32 × Int32 × Int32) ⊕ ((Int32 × Int32 × Int32) ⊕ (Int32))) := some (.inl ((x5, x6, (x7 + (nI 1)))))
noncomputable def f_11031_65 (tab : px_T) (σ : px_M) (x0 : Nat) (x1 : Int32) (x2 : Int32) (x3 : Int32) (x4 : Int32) (x5 : Int32) (x6 : Int32) (x7 : Int32) (x8 : Int32) : Option ((Int32 × Int32 × Int32) ⊕ ((Int32 × Int32 × Int32) ⊕ (Int32))) := bn (x8 = x6) (gd (px_obj (px_lay tab x0) 11) ((f_11016 tab σ x0 x8).bind fun r1 => f_11031_92 tab σ x0 x1 x2 x3 x4 ((x5 ||| (r1 &&& x1))) x8 x7)) (if (x5 &&& x6) = nI 0 then (Option.map Sum.inr (f_11031_113 tab σ x0 x1 ((x2 ||| x5)) x3 x4 x6)) else (some (.inr (.inr ((-1))))))
noncomputable def F_11031_48 (tab : px_T) (σ : px_M) (x0 : Nat) (x1 : Int32) (x2 : Int32) (x3 : Int32) (x4 : Int32) (x5 : Int32) (x6 : Int32) (x7 : Int32) : Option ((Int32 × Int32 × Int32) ⊕ ((Int32 × Int32 × Int32) ⊕ (Int32))) := if (nI 11) ≤ x7 then (if (x5 &&& x6) = nI 0 then (Option.map Sum.inr (f_11031_113 tab σ x0 x1 ((x2 ||| x5)) x3 x4 x6)) else (some (.inr (.inr ((-1)))))) else (gd (px_obj (px_lay tab x0) 11) ((f_11016 tab σ x0 x5).bind fun r1 => f_11031_65 tab σ x0 x1 x2 x3 x4 x5 x6 x7 ((r1 &&& x1))))
noncomputable def f_11031_48 (tab : px_T) (σ : px_M) (x0 : Nat) (x1 : Int32) (x2 : Int32) (x3 : Int32) (x4 : Int32) (x5 : Int32) (x6 : Int32) (x7 : Int32) : Option ((Int32 × Int32 × Int32) ⊕ (Int32)) := lpO (fun s : Int32 × Int32 × Int32 => F_11031_48 tab σ x0 x1 x2 x3 x4 s.1 s.2.1 s.2.2) (x5, x6, x7)
theorem f_11031_48_eq (tab : px_T) (σ : px_M) (x0 : Nat) (x1 : Int32) (x2 : Int32) (x3 : Int32) (x4 : Int32) (x5 : Int32) (x6 : Int32) (x7 : Int32) : f_11031_48 tab σ x0 x1 x2 x3 x4 x5 x6 x7 = (F_11031_48 tab σ x0 x1 x2 x3 x4 x5 x6 x7).bind (Sum.elim (fun s => f_11031_48 tab σ x0 x1 x2 x3 x4 s.1 s.2.1 s.2.2) some) := lpO_eq _ _
noncomputable def f_11031_42 (tab : px_T) (σ : px_M) (x0 : Nat) (x1 : Int32) (x2 : Int32) (x3 : Int32) (x4 : Int32) (x5 : Int32) : Option ((Int32 × Int32 × Int32) ⊕ (Int32)) := f_11031_48 tab σ x0 x1 x2 x3 x4 x5 ((nI 0)) ((nI 0))
noncomputable def F_11031_7 (tab : px_T) (σ : px_M) (x0 : Nat) (x1 : Int32) (x2 : Int32) (x3 : Int32) (x4 : Int32) : Option ((Int32 × Int32 × Int32) ⊕ (Int32)) := gd (px_obj (px_lay tab x0) 11) (if ((σ).1 x0 0) ≤ x4 then (some (.inr (x2))) else (bn ((((x1 &&& (x2 ^^^ (-1))) &&& (x3 ^^^ (-1))) &&& ((nI 1) <<< (x4 &&& 31))) = nI 0) (f_11031_42 tab σ x0 x1 x2 x3 x4 (((nI 1) <<< (x4 &&& 31)))) (some (.inl ((x2, x3, (x4 + (nI 1))))))))
noncomputable def f_11031_7 (tab : px_T) (σ : px_M) (x0 : Nat) (x1 : Int32) (x2 : Int32) (x3 : Int32) (x4 : Int32) : Option (Int32) := lpO (fun s : Int32 × Int32 × Int32 => F_11031_7 tab σ x0 x1 s.1 s.2.1 s.2.2) (x2, x3, x4)
theorem f_11031_7_eq (tab : px_T) (σ : px_M) (x0 : Nat) (x1 : Int32) (x2 : Int32) (x3 : Int32) (x4 : Int32) : f_11031_7 tab σ x0 x1 x2 x3 x4 = (F_11031_7 tab σ x0 x1 x2 x3 x4).bind (Sum.elim (fun s => f_11031_7 tab σ x0 x1 s.1 s.2.1 s.2.2) some) := lpO_eq _ _
noncomputable def f_11031 (tab : px_T) (σ : px_M) (x0 : Nat) (x1 : Int32) : Option (Int32) := f_11031_7 tab σ x0 x1 ((nI 0)) ((nI 0)) ((nI 0))
def kp_11031_113 (Q : Nat → Int32 → Int32 → Int32 → Int32 → Int32 → px_M → Prop) : px_P := fun ls st τ => st = [] ∧ kN ls (fun x0 ls => kI ls (fun x1 ls => kI ls (fun x2 ls => kI ls (fun x3 ls => kI ls (fun x4 ls => kZ ls (fun ls => kI ls (fun x6 ls => kZ ls (fun ls => kZ ls (fun ls => kE ls (Q x0 x1 x2 x3 x4 x6 τ))))))))))
theorem kq_11031_113 {C : px_C} {k : Option px_V → px_M → Prop} {Q : Nat → Int32 → Int32 → Int32 → Int32 → Int32 → px_M → Prop} (H : ∀ (x0 : Nat) (x1 : Int32) (x2 : Int32) (x3 : Int32) (x4 : Int32) (x6 : Int32) (τ : px_M), Q x0 x1 x2 x3 x4 x6 τ → ∀ (z5 : Option px_V) (z7 : Option px_V) (z8 : Option px_V), px_W C k 113 [some (.inr (.inr (some x0))), some (.inl x1), some (.inl x2), some (.inl x3), some (.inl x4), z5, some (.inl x6), z7, z8] [] τ) : ∀ ls st τ, kp_11031_113 Q ls st τ → px_W C k 113 ls st τ := by
  intro ls st τ hz
  obtain ⟨ez, h0⟩ := hz
  obtain ⟨x0, l0, e0, h1⟩ := kN_sp h0
  obtain ⟨x1, l1, e1, h2⟩ := kI_sp h1
  obtain ⟨x2, l2, e2, h3⟩ := kI_sp h2
  obtain ⟨x3, l3, e3, h4⟩ := kI_sp h3
  obtain ⟨x4, l4, e4, h5⟩ := kI_sp h4
  obtain ⟨z5, l5, e5, h6⟩ := kZ_sp h5
  obtain ⟨x6, l6, e6, h7⟩ := kI_sp h6
  obtain ⟨z7, l7, e7, h8⟩ := kZ_sp h7
  obtain ⟨z8, l8, e8, h9⟩ := kZ_sp h8
  obtain ⟨ey, hy⟩ := kE_sp h9
  subst ez
  subst ey
  subst e8
  subst e7
  subst e6
  subst e5
  subst e4
  subst e3
  subst e2
  subst e1
  subst e0
  exact H x0 x1 x2 x3 x4 x6 τ hy z5 z7 z8
def kp_11031_92 (Q : Nat → Int32 → Int32 → Int32 → Int32 → Int32 → Int32 → Int32 → px_M → Prop) : px_P := fun ls st τ => st = [] ∧ kN ls (fun x0 ls => kI ls (fun x1 ls => kI ls (fun x2 ls => kI ls (fun x3 ls => kI ls (fun x4 ls => kI ls (fun x5 ls => kI ls (fun x6 ls => kI ls (fun x7 ls => kZ ls (fun ls => kE ls (Q x0 x1 x2 x3 x4 x5 x6 x7 τ))))))))))
theorem kq_11031_92 {C : px_C} {k : Option px_V → px_M → Prop} {Q : Nat → Int32 → Int32 → Int32 → Int32 → Int32 → Int32 → Int32 → px_M → Prop} (H : ∀ (x0 : Nat) (x1 : Int32) (x2 : Int32) (x3 : Int32) (x4 : Int32) (x5 : Int32) (x6 : Int32) (x7 : Int32) (τ : px_M), Q x0 x1 x2 x3 x4 x5 x6 x7 τ → ∀ (z8 : Option px_V), px_W C k 92 [some (.inr (.inr (some x0))), some (.inl x1), some (.inl x2), some (.inl x3), some (.inl x4), some (.inl x5), some (.inl x6), some (.inl x7), z8] [] τ) : ∀ ls st τ, kp_11031_92 Q ls st τ → px_W C k 92 ls st τ := by
  intro ls st τ hz
  obtain ⟨ez, h0⟩ := hz
  obtain ⟨x0, l0, e0, h1⟩ := kN_sp h0
  obtain ⟨x1, l1, e1, h2⟩ := kI_sp h1
  obtain ⟨x2, l2, e2, h3⟩ := kI_sp h2
  obtain ⟨x3, l3, e3, h4⟩ := kI_sp h3
  obtain ⟨x4, l4, e4, h5⟩ := kI_sp h4
  obtain ⟨x5, l5, e5, h6⟩ := kI_sp h5
  obtain ⟨x6, l6, e6, h7⟩ := kI_sp h6
  obtain ⟨x7, l7, e7, h8⟩ := kI_sp h7
  obtain ⟨z8, l8, e8, h9⟩ := kZ_sp h8
  obtain ⟨ey, hy⟩ := kE_sp h9
  subst ez
  subst ey
  subst e8
  subst e7
  subst e6
  subst e5
  subst e4
  subst e3
  subst e2
  subst e1
  subst e0
  exact H x0 x1 x2 x3 x4 x5 x6 x7 τ hy z8
def kp_11031_65 (Q : Nat → Int32 → Int32 → Int32 → Int32 → Int32 → Int32 → Int32 → Int32 → px_M → Prop) : px_P := fun ls st τ => st = [] ∧ kN ls (fun x0 ls => kI ls (fun x1 ls => kI ls (fun x2 ls => kI ls (fun x3 ls => kI ls (fun x4 ls => kI ls (fun x5 ls => kI ls (fun x6 ls => kI ls (fun x7 ls => kI ls (fun x8 ls => kE ls (Q x0 x1 x2 x3 x4 x5 x6 x7 x8 τ))))))))))
theorem kq_11031_65 {C : px_C} {k : Option px_V → px_M → Prop} {Q : Nat → Int32 → Int32 → Int32 → Int32 → Int32 → Int32 → Int32 → Int32 → px_M → Prop} (H : ∀ (x0 : Nat) (x1 : Int32) (x2 : Int32) (x3 : Int32) (x4 : Int32) (x5 : Int32) (x6 : Int32) (x7 : Int32) (x8 : Int32) (τ : px_M), Q x0 x1 x2 x3 x4 x5 x6 x7 x8 τ → px_W C k 65 [some (.inr (.inr (some x0))), some (.inl x1), some (.inl x2), some (.inl x3), some (.inl x4), some (.inl x5), some (.inl x6), some (.inl x7), some (.inl x8)] [] τ) : ∀ ls st τ, kp_11031_65 Q ls st τ → px_W C k 65 ls st τ := by
  intro ls st τ hz
  obtain ⟨ez, h0⟩ := hz
  obtain ⟨x0, l0, e0, h1⟩ := kN_sp h0
  obtain ⟨x1, l1, e1, h2⟩ := kI_sp h1
  obtain ⟨x2, l2, e2, h3⟩ := kI_sp h2
  obtain ⟨x3, l3, e3, h4⟩ := kI_sp h3
  obtain ⟨x4, l4, e4, h5⟩ := kI_sp h4
  obtain ⟨x5, l5, e5, h6⟩ := kI_sp h5
  obtain ⟨x6, l6, e6, h7⟩ := kI_sp h6
  obtain ⟨x7, l7, e7, h8⟩ := kI_sp h7
  obtain ⟨x8, l8, e8, h9⟩ := kI_sp h8
  obtain ⟨ey, hy⟩ := kE_sp h9
  subst ez
  subst ey
  subst e8
  subst e7
  subst e6
  subst e5
  subst e4
  subst e3
  subst e2
  subst e1
  subst e0
  exact H x0 x1 x2 x3 x4 x5 x6 x7 x8 τ hy
def kp_11031_48 (Q : Nat → Int32 → Int32 → Int32 → Int32 → Int32 → Int32 → Int32 → px_M → Prop) : px_P := fun ls st τ => st = [] ∧ kN ls (fun x0 ls => kI ls (fun x1 ls => kI ls (fun x2 ls => kI ls (fun x3 ls => kI ls (fun x4 ls => kI ls (fun x5 ls => kI ls (fun x6 ls => kI ls (fun x7 ls => kZ ls (fun ls => kE ls (Q x0 x1 x2 x3 x4 x5 x6 x7 τ))))))))))
theorem kq_11031_48 {C : px_C} {k : Option px_V → px_M → Prop} {Q : Nat → Int32 → Int32 → Int32 → Int32 → Int32 → Int32 → Int32 → px_M → Prop} (H : ∀ (x0 : Nat) (x1 : Int32) (x2 : Int32) (x3 : Int32) (x4 : Int32) (x5 : Int32) (x6 : Int32) (x7 : Int32) (τ : px_M), Q x0 x1 x2 x3 x4 x5 x6 x7 τ → ∀ (z8 : Option px_V), px_W C k 48 [some (.inr (.inr (some x0))), some (.inl x1), some (.inl x2), some (.inl x3), some (.inl x4), some (.inl x5), some (.inl x6), some (.inl x7), z8] [] τ) : ∀ ls st τ, kp_11031_48 Q ls st τ → px_W C k 48 ls st τ := by
  intro ls st τ hz
  obtain ⟨ez, h0⟩ := hz
  obtain ⟨x0, l0, e0, h1⟩ := kN_sp h0
  obtain ⟨x1, l1, e1, h2⟩ := kI_sp h1
  obtain ⟨x2, l2, e2, h3⟩ := kI_sp h2
  obtain ⟨x3, l3, e3, h4⟩ := kI_sp h3
  obtain ⟨x4, l4, e4, h5⟩ := kI_sp h4
  obtain ⟨x5, l5, e5, h6⟩ := kI_sp h5
  obtain ⟨x6, l6, e6, h7⟩ := kI_sp h6
  obtain ⟨x7, l7, e7, h8⟩ := kI_sp h7
  obtain ⟨z8, l8, e8, h9⟩ := kZ_sp h8
  obtain ⟨ey, hy⟩ := kE_sp h9
  subst ez
  subst ey
  subst e8
  subst e7
  subst e6
  subst e5
  subst e4
  subst e3
  subst e2
  subst e1
  subst e0
  exact H x0 x1 x2 x3 x4 x5 x6 x7 τ hy z8
def kp_11031_42 (Q : Nat → Int32 → Int32 → Int32 → Int32 → Int32 → px_M → Prop) : px_P := fun ls st τ => st = [] ∧ kN ls (fun x0 ls => kI ls (fun x1 ls => kI ls (fun x2 ls => kI ls (fun x3 ls => kI ls (fun x4 ls => kI ls (fun x5 ls => kZ ls (fun ls => kZ ls (fun ls => kZ ls (fun ls => kE ls (Q x0 x1 x2 x3 x4 x5 τ))))))))))
theorem kq_11031_42 {C : px_C} {k : Option px_V → px_M → Prop} {Q : Nat → Int32 → Int32 → Int32 → Int32 → Int32 → px_M → Prop} (H : ∀ (x0 : Nat) (x1 : Int32) (x2 : Int32) (x3 : Int32) (x4 : Int32) (x5 : Int32) (τ : px_M), Q x0 x1 x2 x3 x4 x5 τ → ∀ (z6 : Option px_V) (z7 : Option px_V) (z8 : Option px_V), px_W C k 42 [some (.inr (.inr (some x0))), some (.inl x1), some (.inl x2), some (.inl x3), some (.inl x4), some (.inl x5), z6, z7, z8] [] τ) : ∀ ls st τ, kp_11031_42 Q ls st τ → px_W C k 42 ls st τ := by
  intro ls st τ hz
  obtain ⟨ez, h0⟩ := hz
  obtain ⟨x0, l0, e0, h1⟩ := kN_sp h0
  obtain ⟨x1, l1, e1, h2⟩ := kI_sp h1
  obtain ⟨x2, l2, e2, h3⟩ := kI_sp h2
  obtain ⟨x3, l3, e3, h4⟩ := kI_sp h3
  obtain ⟨x4, l4, e4, h5⟩ := kI_sp h4
  obtain ⟨x5, l5, e5, h6⟩ := kI_sp h5
  obtain ⟨z6, l6, e6, h7⟩ := kZ_sp h6
  obtain ⟨z7, l7, e7, h8⟩ := kZ_sp h7
  obtain ⟨z8, l8, e8, h9⟩ := kZ_sp h8
  obtain ⟨ey, hy⟩ := kE_sp h9
  subst ez
  subst ey
  subst e8
  subst e7
  subst e6
  subst e5
  subst e4
  subst e3
  subst e2
  subst e1
  subst e0
  exact H x0 x1 x2 x3 x4 x5 τ hy z6 z7 z8
def kp_11031_7 (Q : Nat → Int32 → Int32 → Int32 → Int32 → px_M → Prop) : px_P := fun ls st τ => st = [] ∧ kN ls (fun x0 ls => kI ls (fun x1 ls => kI ls (fun x2 ls => kI ls (fun x3 ls => kI ls (fun x4 ls => kZ ls (fun ls => kZ ls (fun ls => kZ ls (fun ls => kZ ls (fun ls => kE ls (Q x0 x1 x2 x3 x4 τ))))))))))
theorem kq_11031_7 {C : px_C} {k : Option px_V → px_M → Prop} {Q : Nat → Int32 → Int32 → Int32 → Int32 → px_M → Prop} (H : ∀ (x0 : Nat) (x1 : Int32) (x2 : Int32) (x3 : Int32) (x4 : Int32) (τ : px_M), Q x0 x1 x2 x3 x4 τ → ∀ (z5 : Option px_V) (z6 : Option px_V) (z7 : Option px_V) (z8 : Option px_V), px_W C k 7 [some (.inr (.inr (some x0))), some (.inl x1), some (.inl x2), some (.inl x3), some (.inl x4), z5, z6, z7, z8] [] τ) : ∀ ls st τ, kp_11031_7 Q ls st τ → px_W C k 7 ls st τ := by
  intro ls st τ hz
  obtain ⟨ez, h0⟩ := hz
  obtain ⟨x0, l0, e0, h1⟩ := kN_sp h0
  obtain ⟨x1, l1, e1, h2⟩ := kI_sp h1
  obtain ⟨x2, l2, e2, h3⟩ := kI_sp h2
  obtain ⟨x3, l3, e3, h4⟩ := kI_sp h3
  obtain ⟨x4, l4, e4, h5⟩ := kI_sp h4
  obtain ⟨z5, l5, e5, h6⟩ := kZ_sp h5
  obtain ⟨z6, l6, e6, h7⟩ := kZ_sp h6
  obtain ⟨z7, l7, e7, h8⟩ := kZ_sp h7
  obtain ⟨z8, l8, e8, h9⟩ := kZ_sp h8
  obtain ⟨ey, hy⟩ := kE_sp h9
  subst ez
  subst ey
  subst e8
  subst e7
  subst e6
  subst e5
  subst e4
  subst e3
  subst e2
  subst e1
  subst e0
  exact H x0 x1 x2 x3 x4 τ hy z5 z6 z7 z8
set_option maxHeartbeats 4000000 in
set_option maxRecDepth 100000 in
theorem rl_11031_113 {C : px_C} (hn : px_nd (px_tb C)) {h : Nat} (hh : 2 ≤ h) (hC : px_ok C pn_i11031 h) {k : Option px_V → px_M → Prop} {x0 : Nat} {x1 : Int32} {x2 : Int32} {x3 : Int32} {x4 : Int32} {x6 : Int32} {σ : px_M} (hs : oW (f_11031_113 (px_tb C) σ x0 x1 x2 x3 x4 x6) (Sum.elim (fun s : Int32 × Int32 × Int32 => ∀ (z5 : Option px_V) (z6 : Option px_V) (z7 : Option px_V) (z8 : Option px_V), px_W C k 7 [some (.inr (.inr (some x0))), some (.inl x1), some (.inl s.1), some (.inl s.2.1), some (.inl s.2.2), z5, z6, z7, z8] [] σ) (fun r => k (some (.inl r)) σ))) : ∀ (z5 : Option px_V) (z7 : Option px_V) (z8 : Option px_V), px_W C k 113 [some (.inr (.inr (some x0))), some (.inl x1), some (.inl x2), some (.inl x3), some (.inl x4), z5, some (.inl x6), z7, z8] [] σ := by
  intro z5 z7 z8
  refine px_runH (h - 1) ck_11031 [] [(7, kp_11031_7 (fun y0 y1 y2 y3 y4 τ => y0 = x0 ∧ y1 = x1 ∧ τ = σ ∧ (fun s : Int32 × Int32 × Int32 => ∀ (z5 : Option px_V) (z6 : Option px_V) (z7 : Option px_V) (z8 : Option px_V), px_W C k 7 [some (.inr (.inr (some x0))), some (.inl x1), some (.inl s.1), some (.inl s.2.1), some (.inl s.2.2), z5, z6, z7, z8] [] σ) (y2, y3, y4)))] 80 9 (some .int) rfl rfl hC px_nosp (by omega) (px_cut1 (kq_11031_7 (fun y0 y1 y2 y3 y4 τ hq => by obtain ⟨rfl, rfl, rfl, hq⟩ := hq; exact hq)) px_nocut) (fun G Jf hG hJf => ?_)
  unfold f_11031_113 at hs
  simp only [↓hG, ↓hJf, ↓px_vc, ↓px_ex, ↓px_jp, ↓px_gi, ↓px_gl, ↓px_gr, ↓px_s1, ↓px_s2, ↓px_nl, ↓px_i1, ↓px_l1, ↓r1_s, ↓px_q1, ↓px_i2, ↓px_l2, ↓px_il, ↓px_d0, ↓px_d1, ↓px_d2, ↓px_pop, ↓px_sp, ↓px_rd, ↓px_rf, ↓pn_xf, ↓px_pt, ↓px_sw, ↓pn_SW, ↓px_ma, ↓reduceIte, Nat.reduceEqDiff, Nat.reduceAdd, Nat.reduceSub, ↓Option.toList_some, ↓Option.toList_none, ↓List.cons_append, ↓List.nil_append, ↓kI_s, ↓kJ_s, ↓kN_s, ↓kO_s, ↓kZ_s, ↓kE_s, ↓an_rfl, ↓bt1 n00, ↓bt2 n00, ↓bf1 n10, ↓bf2 n10, ↓an_sz0, ↓an_sz1, ↓an_sz2, ↓an_sz3, ↓an_sz4, ↓an_ri, ↓an_rb0, ↓an_rb1, ↓an_b0, ↓an_b1, true_and, ↓ai_0s, ↓al_0s, ↓av_0s, ↓aq_0s, ↓ai_1s, ↓al_1s, ↓av_1s, ↓aq_1s, ↓ai_2s, ↓al_2s, ↓av_2s, ↓aq_2s, ↓ai_3s, ↓al_3s, ↓av_3s, ↓aq_3s, ↓ai_4s, ↓al_4s, ↓av_4s, ↓aq_4s, ↓ai_5s, ↓al_5s, ↓av_5s, ↓aq_5s, ↓ai_6s, ↓al_6s, ↓av_6s, ↓aq_6s, ↓ai_7s, ↓al_7s, ↓av_7s, ↓aq_7s, ↓an_l9, ↓bk_11031, ↓kp_11031_7]
  rw [oW_some] at hs
  exact hs
set_option maxHeartbeats 4000000 in
set_option maxRecDepth 100000 in
theorem rl_11031_92 {C : px_C} (hn : px_nd (px_tb C)) {h : Nat} (hh : 2 ≤ h) (hC : px_ok C pn_i11031 h) {k : Option px_V → px_M → Prop} {x0 : Nat} {x1 : Int32} {x2 : Int32} {x3 : Int32} {x4 : Int32} {x5 : Int32} {x6 : Int32} {x7 : Int32} {σ : px_M} (hs : oW (f_11031_92 (px_tb C) σ x0 x1 x2 x3 x4 x5 x6 x7) (Sum.elim (fun s : Int32 × Int32 × Int32 => ∀ (z8 : Option px_V), px_W C k 48 [some (.inr (.inr (some x0))), some (.inl x1), some (.inl x2), some (.inl x3), some (.inl x4), some (.inl s.1), some (.inl s.2.1), some (.inl s.2.2), z8] [] σ) (Sum.elim (fun s : Int32 × Int32 × Int32 => ∀ (z5 : Option px_V) (z6 : Option px_V) (z7 : Option px_V) (z8 : Option px_V), px_W C k 7 [some (.inr (.inr (some x0))), some (.inl x1), some (.inl s.1), some (.inl s.2.1), some (.inl s.2.2), z5, z6, z7, z8] [] σ) (fun r => k (some (.inl r)) σ)))) : ∀ (z8 : Option px_V), px_W C k 92 [some (.inr (.inr (some x0))), some (.inl x1), some (.inl x2), some (.inl x3), some (.inl x4), some (.inl x5), some (.inl x6), some (.inl x7), z8] [] σ := by
  intro z8
  refine px_runH (h - 1) ck_11031 [] [(48, kp_11031_48 (fun y0 y1 y2 y3 y4 y5 y6 y7 τ => y0 = x0 ∧ y1 = x1 ∧ y2 = x2 ∧ y3 = x3 ∧ y4 = x4 ∧ τ = σ ∧ (fun s : Int32 × Int32 × Int32 => ∀ (z8 : Option px_V), px_W C k 48 [some (.inr (.inr (some x0))), some (.inl x1), some (.inl x2), some (.inl x3), some (.inl x4), some (.inl s.1), some (.inl s.2.1), some (.inl s.2.2), z8] [] σ) (y5, y6, y7)))] 80 9 (some .int) rfl rfl hC px_nosp (by omega) (px_cut1 (kq_11031_48 (fun y0 y1 y2 y3 y4 y5 y6 y7 τ hq => by obtain ⟨rfl, rfl, rfl, rfl, rfl, rfl, hq⟩ := hq; exact hq)) px_nocut) (fun G Jf hG hJf => ?_)
  unfold f_11031_92 at hs
  simp only [↓hG, ↓hJf, ↓px_vc, ↓px_ex, ↓px_jp, ↓px_gi, ↓px_gl, ↓px_gr, ↓px_s1, ↓px_s2, ↓px_nl, ↓px_i1, ↓px_l1, ↓r1_s, ↓px_q1, ↓px_i2, ↓px_l2, ↓px_il, ↓px_d0, ↓px_d1, ↓px_d2, ↓px_pop, ↓px_sp, ↓px_rd, ↓px_rf, ↓pn_xf, ↓px_pt, ↓px_sw, ↓pn_SW, ↓px_ma, ↓reduceIte, Nat.reduceEqDiff, Nat.reduceAdd, Nat.reduceSub, ↓Option.toList_some, ↓Option.toList_none, ↓List.cons_append, ↓List.nil_append, ↓kI_s, ↓kJ_s, ↓kN_s, ↓kO_s, ↓kZ_s, ↓kE_s, ↓an_rfl, ↓bt1 n00, ↓bt2 n00, ↓bf1 n10, ↓bf2 n10, ↓an_sz0, ↓an_sz1, ↓an_sz2, ↓an_sz3, ↓an_sz4, ↓an_ri, ↓an_rb0, ↓an_rb1, ↓an_b0, ↓an_b1, true_and, ↓ai_0s, ↓al_0s, ↓av_0s, ↓aq_0s, ↓ai_1s, ↓al_1s, ↓av_1s, ↓aq_1s, ↓ai_2s, ↓al_2s, ↓av_2s, ↓aq_2s, ↓ai_3s, ↓al_3s, ↓av_3s, ↓aq_3s, ↓ai_4s, ↓al_4s, ↓av_4s, ↓aq_4s, ↓ai_5s, ↓al_5s, ↓av_5s, ↓aq_5s, ↓ai_6s, ↓al_6s, ↓av_6s, ↓aq_6s, ↓ai_7s, ↓al_7s, ↓av_7s, ↓aq_7s, ↓an_l9, ↓bk_11031, ↓kp_11031_48]
  rw [oW_some] at hs
  exact hs
set_option maxHeartbeats 4000000 in
set_option maxRecDepth 100000 in
theorem rl_11031_65 {C : px_C} (hn : px_nd (px_tb C)) {h : Nat} (hh : 2 ≤ h) (hC : px_ok C pn_i11031 h) {k : Option px_V → px_M → Prop} {x0 : Nat} {x1 : Int32} {x2 : Int32} {x3 : Int32} {x4 : Int32} {x5 : Int32} {x6 : Int32} {x7 : Int32} {x8 : Int32} {σ : px_M} (hs : oW (f_11031_65 (px_tb C) σ x0 x1 x2 x3 x4 x5 x6 x7 x8) (Sum.elim (fun s : Int32 × Int32 × Int32 => ∀ (z8 : Option px_V), px_W C k 48 [some (.inr (.inr (some x0))), some (.inl x1), some (.inl x2), some (.inl x3), some (.inl x4), some (.inl s.1), some (.inl s.2.1), some (.inl s.2.2), z8] [] σ) (Sum.elim (fun s : Int32 × Int32 × Int32 => ∀ (z5 : Option px_V) (z6 : Option px_V) (z7 : Option px_V) (z8 : Option px_V), px_W C k 7 [some (.inr (.inr (some x0))), some (.inl x1), some (.inl s.1), some (.inl s.2.1), some (.inl s.2.2), z5, z6, z7, z8] [] σ) (fun r => k (some (.inl r)) σ)))) : px_W C k 65 [some (.inr (.inr (some x0))), some (.inl x1), some (.inl x2), some (.inl x3), some (.inl x4), some (.inl x5), some (.inl x6), some (.inl x7), some (.inl x8)] [] σ := by
  refine px_runH (h - 1) ck_11031 [(11016, Sg_11016 (f_11016 (px_tb C)))] [(92, kp_11031_92 (fun y0 y1 y2 y3 y4 y5 y6 y7 τ => y0 = x0 ∧ y1 = x1 ∧ y2 = x2 ∧ y3 = x3 ∧ y4 = x4 ∧ τ = σ ∧ oW (f_11031_92 (px_tb C) τ y0 y1 y2 y3 y4 y5 y6 y7) (Sum.elim (fun s : Int32 × Int32 × Int32 => ∀ (z8 : Option px_V), px_W C k 48 [some (.inr (.inr (some x0))), some (.inl x1), some (.inl x2), some (.inl x3), some (.inl x4), some (.inl s.1), some (.inl s.2.1), some (.inl s.2.2), z8] [] σ) (Sum.elim (fun s : Int32 × Int32 × Int32 => ∀ (z5 : Option px_V) (z6 : Option px_V) (z7 : Option px_V) (z8 : Option px_V), px_W C k 7 [some (.inr (.inr (some x0))), some (.inl x1), some (.inl s.1), some (.inl s.2.1), some (.inl s.2.2), z5, z6, z7, z8] [] σ) (fun r => k (some (.inl r)) σ))))), (113, kp_11031_113 (fun y0 y1 y2 y3 y4 y6 τ => y0 = x0 ∧ y1 = x1 ∧ τ = σ ∧ oW (f_11031_113 (px_tb C) τ y0 y1 y2 y3 y4 y6) (Sum.elim (fun s : Int32 × Int32 × Int32 => ∀ (z5 : Option px_V) (z6 : Option px_V) (z7 : Option px_V) (z8 : Option px_V), px_W C k 7 [some (.inr (.inr (some x0))), some (.inl x1), some (.inl s.1), some (.inl s.2.1), some (.inl s.2.2), z5, z6, z7, z8] [] σ) (fun r => k (some (.inl r)) σ))))] 80 9 (some .int) rfl rfl hC (px_sp1 (mf_11016 hn (by omega)) px_nosp) (by omega) (px_cut1 (kq_11031_92 (fun y0 y1 y2 y3 y4 y5 y6 y7 τ hq => by obtain ⟨rfl, rfl, rfl, rfl, rfl, rfl, hq⟩ := hq; exact rl_11031_92 hn (by omega) hC  hq)) (px_cut1 (kq_11031_113 (fun y0 y1 y2 y3 y4 y6 τ hq => by obtain ⟨rfl, rfl, rfl, hq⟩ := hq; exact rl_11031_113 hn (by omega) hC  hq)) px_nocut)) (fun G Jf hG hJf => ?_)
  unfold f_11031_65 at hs
  by_cases hc0 : x8 = x6
  · replace hs := bW_t hs hc0
    by_cases hc1 : (x5 &&& x6) = nI 0
    · replace hs := oW_t hs hc1
      simp only [↓hG, ↓hJf, ↓px_vc, ↓px_ex, ↓px_jp, ↓px_gi, ↓px_gl, ↓px_gr, ↓px_s1, ↓px_s2, ↓px_nl, ↓px_i1, ↓px_l1, ↓r1_s, ↓px_q1, ↓px_i2, ↓px_l2, ↓px_il, ↓px_d0, ↓px_d1, ↓px_d2, ↓px_pop, ↓px_sp, ↓px_rd, ↓px_rf, ↓pn_xf, ↓px_pt, ↓px_sw, ↓pn_SW, ↓px_ma, ↓reduceIte, Nat.reduceEqDiff, Nat.reduceAdd, Nat.reduceSub, ↓Option.toList_some, ↓Option.toList_none, ↓List.cons_append, ↓List.nil_append, ↓kI_s, ↓kJ_s, ↓kN_s, ↓kO_s, ↓kZ_s, ↓kE_s, ↓an_rfl, ↓bt1 n00, ↓bt2 n00, ↓bf1 n10, ↓bf2 n10, ↓an_sz0, ↓an_sz1, ↓an_sz2, ↓an_sz3, ↓an_sz4, ↓an_ri, ↓an_rb0, ↓an_rb1, ↓an_b0, ↓an_b1, true_and, ↓ai_0s, ↓al_0s, ↓av_0s, ↓aq_0s, ↓ai_1s, ↓al_1s, ↓av_1s, ↓aq_1s, ↓ai_2s, ↓al_2s, ↓av_2s, ↓aq_2s, ↓ai_3s, ↓al_3s, ↓av_3s, ↓aq_3s, ↓ai_4s, ↓al_4s, ↓av_4s, ↓aq_4s, ↓ai_5s, ↓al_5s, ↓av_5s, ↓aq_5s, ↓ai_6s, ↓al_6s, ↓av_6s, ↓aq_6s, ↓ai_7s, ↓al_7s, ↓av_7s, ↓aq_7s, ↓an_l9, ↓bk_11031, ↓Sg_11016, ↓kp_11031_92, ↓kp_11031_113, ↓bt1 hc0, ↓bt2 hc0, ↓bt1 hc1, ↓bt2 hc1]
      simp only [oW_map] at hs
      exact hs
    · replace hs := oW_f hs hc1
      simp only [↓hG, ↓hJf, ↓px_vc, ↓px_ex, ↓px_jp, ↓px_gi, ↓px_gl, ↓px_gr, ↓px_s1, ↓px_s2, ↓px_nl, ↓px_i1, ↓px_l1, ↓r1_s, ↓px_q1, ↓px_i2, ↓px_l2, ↓px_il, ↓px_d0, ↓px_d1, ↓px_d2, ↓px_pop, ↓px_sp, ↓px_rd, ↓px_rf, ↓pn_xf, ↓px_pt, ↓px_sw, ↓pn_SW, ↓px_ma, ↓reduceIte, Nat.reduceEqDiff, Nat.reduceAdd, Nat.reduceSub, ↓Option.toList_some, ↓Option.toList_none, ↓List.cons_append, ↓List.nil_append, ↓kI_s, ↓kJ_s, ↓kN_s, ↓kO_s, ↓kZ_s, ↓kE_s, ↓an_rfl, ↓bt1 n00, ↓bt2 n00, ↓bf1 n10, ↓bf2 n10, ↓an_sz0, ↓an_sz1, ↓an_sz2, ↓an_sz3, ↓an_sz4, ↓an_ri, ↓an_rb0, ↓an_rb1, ↓an_b0, ↓an_b1, true_and, ↓ai_0s, ↓al_0s, ↓av_0s, ↓aq_0s, ↓ai_1s, ↓al_1s, ↓av_1s, ↓aq_1s, ↓ai_2s, ↓al_2s, ↓av_2s, ↓aq_2s, ↓ai_3s, ↓al_3s, ↓av_3s, ↓aq_3s, ↓ai_4s, ↓al_4s, ↓av_4s, ↓aq_4s, ↓ai_5s, ↓al_5s, ↓av_5s, ↓aq_5s, ↓ai_6s, ↓al_6s, ↓av_6s, ↓aq_6s, ↓ai_7s, ↓al_7s, ↓av_7s, ↓aq_7s, ↓an_l9, ↓bk_11031, ↓Sg_11016, ↓kp_11031_92, ↓kp_11031_113, ↓bt1 hc0, ↓bt2 hc0, ↓bf1 hc1, ↓bf2 hc1]
      rw [oW_some] at hs
      exact hs
  · replace hs := bW_f hs hc0
    obtain ⟨hc1, hs⟩ := oW_gx hs
    obtain ⟨r1, hc2, hs⟩ := oW_bx hs
    simp only [↓hG, ↓hJf, ↓px_vc, ↓px_ex, ↓px_jp, ↓px_gi, ↓px_gl, ↓px_gr, ↓px_s1, ↓px_s2, ↓px_nl, ↓px_i1, ↓px_l1, ↓r1_s, ↓px_q1, ↓px_i2, ↓px_l2, ↓px_il, ↓px_d0, ↓px_d1, ↓px_d2, ↓px_pop, ↓px_sp, ↓px_rd, ↓px_rf, ↓pn_xf, ↓px_pt, ↓px_sw, ↓pn_SW, ↓px_ma, ↓reduceIte, Nat.reduceEqDiff, Nat.reduceAdd, Nat.reduceSub, ↓Option.toList_some, ↓Option.toList_none, ↓List.cons_append, ↓List.nil_append, ↓kI_s, ↓kJ_s, ↓kN_s, ↓kO_s, ↓kZ_s, ↓kE_s, ↓an_rfl, ↓bt1 n00, ↓bt2 n00, ↓bf1 n10, ↓bf2 n10, ↓an_sz0, ↓an_sz1, ↓an_sz2, ↓an_sz3, ↓an_sz4, ↓an_ri, ↓an_rb0, ↓an_rb1, ↓an_b0, ↓an_b1, true_and, ↓ai_0s, ↓al_0s, ↓av_0s, ↓aq_0s, ↓ai_1s, ↓al_1s, ↓av_1s, ↓aq_1s, ↓ai_2s, ↓al_2s, ↓av_2s, ↓aq_2s, ↓ai_3s, ↓al_3s, ↓av_3s, ↓aq_3s, ↓ai_4s, ↓al_4s, ↓av_4s, ↓aq_4s, ↓ai_5s, ↓al_5s, ↓av_5s, ↓aq_5s, ↓ai_6s, ↓al_6s, ↓av_6s, ↓aq_6s, ↓ai_7s, ↓al_7s, ↓av_7s, ↓aq_7s, ↓an_l9, ↓bk_11031, ↓Sg_11016, ↓kp_11031_92, ↓kp_11031_113, ↓bf1 hc0, ↓bf2 hc0, ↓an_t hc1, ↓an_rv hc1, ↓oW_e hc2]
    exact hs
set_option maxHeartbeats 4000000 in
set_option maxRecDepth 100000 in
theorem rl_11031_48 {C : px_C} (hn : px_nd (px_tb C)) {h : Nat} (hh : 2 ≤ h) (hC : px_ok C pn_i11031 h) {k : Option px_V → px_M → Prop} {x0 : Nat} {x1 : Int32} {x2 : Int32} {x3 : Int32} {x4 : Int32} {σ : px_M} : ∀ s : Int32 × Int32 × Int32, oW (f_11031_48 (px_tb C) σ x0 x1 x2 x3 x4 s.1 s.2.1 s.2.2) (Sum.elim (fun s : Int32 × Int32 × Int32 => ∀ (z5 : Option px_V) (z6 : Option px_V) (z7 : Option px_V) (z8 : Option px_V), px_W C k 7 [some (.inr (.inr (some x0))), some (.inl x1), some (.inl s.1), some (.inl s.2.1), some (.inl s.2.2), z5, z6, z7, z8] [] σ) (fun r => k (some (.inl r)) σ)) → (fun s : Int32 × Int32 × Int32 => ∀ (z8 : Option px_V), px_W C k 48 [some (.inr (.inr (some x0))), some (.inl x1), some (.inl x2), some (.inl x3), some (.inl x4), some (.inl s.1), some (.inl s.2.1), some (.inl s.2.2), z8] [] σ) s := by
  intro s h0
  refine lpO_sound (P := (fun s : Int32 × Int32 × Int32 => ∀ (z8 : Option px_V), px_W C k 48 [some (.inr (.inr (some x0))), some (.inl x1), some (.inl x2), some (.inl x3), some (.inl x4), some (.inl s.1), some (.inl s.2.1), some (.inl s.2.2), z8] [] σ)) (fun s hs => ?_) h0
  obtain ⟨x5, x6, x7⟩ := s
  intro z8
  refine px_runH (h - 1) ck_11031 [(11016, Sg_11016 (f_11016 (px_tb C)))] [(65, kp_11031_65 (fun y0 y1 y2 y3 y4 y5 y6 y7 y8 τ => y0 = x0 ∧ y1 = x1 ∧ y2 = x2 ∧ y3 = x3 ∧ y4 = x4 ∧ τ = σ ∧ oW (f_11031_65 (px_tb C) τ y0 y1 y2 y3 y4 y5 y6 y7 y8) (Sum.elim (fun s : Int32 × Int32 × Int32 => ∀ (z8 : Option px_V), px_W C k 48 [some (.inr (.inr (some x0))), some (.inl x1), some (.inl x2), some (.inl x3), some (.inl x4), some (.inl s.1), some (.inl s.2.1), some (.inl s.2.2), z8] [] σ) (Sum.elim (fun s : Int32 × Int32 × Int32 => ∀ (z5 : Option px_V) (z6 : Option px_V) (z7 : Option px_V) (z8 : Option px_V), px_W C k 7 [some (.inr (.inr (some x0))), some (.inl x1), some (.inl s.1), some (.inl s.2.1), some (.inl s.2.2), z5, z6, z7, z8] [] σ) (fun r => k (some (.inl r)) σ))))), (113, kp_11031_113 (fun y0 y1 y2 y3 y4 y6 τ => y0 = x0 ∧ y1 = x1 ∧ τ = σ ∧ oW (f_11031_113 (px_tb C) τ y0 y1 y2 y3 y4 y6) (Sum.elim (fun s : Int32 × Int32 × Int32 => ∀ (z5 : Option px_V) (z6 : Option px_V) (z7 : Option px_V) (z8 : Option px_V), px_W C k 7 [some (.inr (.inr (some x0))), some (.inl x1), some (.inl s.1), some (.inl s.2.1), some (.inl s.2.2), z5, z6, z7, z8] [] σ) (fun r => k (some (.inl r)) σ))))] 80 9 (some .int) rfl rfl hC (px_sp1 (mf_11016 hn (by omega)) px_nosp) (by omega) (px_cut1 (kq_11031_65 (fun y0 y1 y2 y3 y4 y5 y6 y7 y8 τ hq => by obtain ⟨rfl, rfl, rfl, rfl, rfl, rfl, hq⟩ := hq; exact rl_11031_65 hn (by omega) hC  hq)) (px_cut1 (kq_11031_113 (fun y0 y1 y2 y3 y4 y6 τ hq => by obtain ⟨rfl, rfl, rfl, hq⟩ := hq; exact rl_11031_113 hn (by omega) hC  hq)) px_nocut)) (fun G Jf hG hJf => ?_)
  replace hs : oW (F_11031_48 (px_tb C) σ x0 x1 x2 x3 x4 x5 x6 x7) _ := hs
  unfold F_11031_48 at hs
  by_cases hc0 : (nI 11) ≤ x7
  · replace hs := oW_t hs hc0
    by_cases hc1 : (x5 &&& x6) = nI 0
    · replace hs := oW_t hs hc1
      simp only [↓hG, ↓hJf, ↓px_vc, ↓px_ex, ↓px_jp, ↓px_gi, ↓px_gl, ↓px_gr, ↓px_s1, ↓px_s2, ↓px_nl, ↓px_i1, ↓px_l1, ↓r1_s, ↓px_q1, ↓px_i2, ↓px_l2, ↓px_il, ↓px_d0, ↓px_d1, ↓px_d2, ↓px_pop, ↓px_sp, ↓px_rd, ↓px_rf, ↓pn_xf, ↓px_pt, ↓px_sw, ↓pn_SW, ↓px_ma, ↓reduceIte, Nat.reduceEqDiff, Nat.reduceAdd, Nat.reduceSub, ↓Option.toList_some, ↓Option.toList_none, ↓List.cons_append, ↓List.nil_append, ↓kI_s, ↓kJ_s, ↓kN_s, ↓kO_s, ↓kZ_s, ↓kE_s, ↓an_rfl, ↓bt1 n00, ↓bt2 n00, ↓bf1 n10, ↓bf2 n10, ↓an_sz0, ↓an_sz1, ↓an_sz2, ↓an_sz3, ↓an_sz4, ↓an_ri, ↓an_rb0, ↓an_rb1, ↓an_b0, ↓an_b1, true_and, ↓ai_0s, ↓al_0s, ↓av_0s, ↓aq_0s, ↓ai_1s, ↓al_1s, ↓av_1s, ↓aq_1s, ↓ai_2s, ↓al_2s, ↓av_2s, ↓aq_2s, ↓ai_3s, ↓al_3s, ↓av_3s, ↓aq_3s, ↓ai_4s, ↓al_4s, ↓av_4s, ↓aq_4s, ↓ai_5s, ↓al_5s, ↓av_5s, ↓aq_5s, ↓ai_6s, ↓al_6s, ↓av_6s, ↓aq_6s, ↓ai_7s, ↓al_7s, ↓av_7s, ↓aq_7s, ↓an_l9, ↓bk_11031, ↓Sg_11016, ↓kp_11031_65, ↓kp_11031_113, ↓bt1 hc0, ↓bt2 hc0, ↓bt1 hc1, ↓bt2 hc1]
      simp only [oW_map] at hs
      exact hs
    · replace hs := oW_f hs hc1
      simp only [↓hG, ↓hJf, ↓px_vc, ↓px_ex, ↓px_jp, ↓px_gi, ↓px_gl, ↓px_gr, ↓px_s1, ↓px_s2, ↓px_nl, ↓px_i1, ↓px_l1, ↓r1_s, ↓px_q1, ↓px_i2, ↓px_l2, ↓px_il, ↓px_d0, ↓px_d1, ↓px_d2, ↓px_pop, ↓px_sp, ↓px_rd, ↓px_rf, ↓pn_xf, ↓px_pt, ↓px_sw, ↓pn_SW, ↓px_ma, ↓reduceIte, Nat.reduceEqDiff, Nat.reduceAdd, Nat.reduceSub, ↓Option.toList_some, ↓Option.toList_none, ↓List.cons_append, ↓List.nil_append, ↓kI_s, ↓kJ_s, ↓kN_s, ↓kO_s, ↓kZ_s, ↓kE_s, ↓an_rfl, ↓bt1 n00, ↓bt2 n00, ↓bf1 n10, ↓bf2 n10, ↓an_sz0, ↓an_sz1, ↓an_sz2, ↓an_sz3, ↓an_sz4, ↓an_ri, ↓an_rb0, ↓an_rb1, ↓an_b0, ↓an_b1, true_and, ↓ai_0s, ↓al_0s, ↓av_0s, ↓aq_0s, ↓ai_1s, ↓al_1s, ↓av_1s, ↓aq_1s, ↓ai_2s, ↓al_2s, ↓av_2s, ↓aq_2s, ↓ai_3s, ↓al_3s, ↓av_3s, ↓aq_3s, ↓ai_4s, ↓al_4s, ↓av_4s, ↓aq_4s, ↓ai_5s, ↓al_5s, ↓av_5s, ↓aq_5s, ↓ai_6s, ↓al_6s, ↓av_6s, ↓aq_6s, ↓ai_7s, ↓al_7s, ↓av_7s, ↓aq_7s, ↓an_l9, ↓bk_11031, ↓Sg_11016, ↓kp_11031_65, ↓kp_11031_113, ↓bt1 hc0, ↓bt2 hc0, ↓bf1 hc1, ↓bf2 hc1]
      rw [oW_some] at hs
      exact hs
  · replace hs := oW_f hs hc0
    obtain ⟨hc1, hs⟩ := oW_gx hs
    obtain ⟨r1, hc2, hs⟩ := oW_bx hs
    simp only [↓hG, ↓hJf, ↓px_vc, ↓px_ex, ↓px_jp, ↓px_gi, ↓px_gl, ↓px_gr, ↓px_s1, ↓px_s2, ↓px_nl, ↓px_i1, ↓px_l1, ↓r1_s, ↓px_q1, ↓px_i2, ↓px_l2, ↓px_il, ↓px_d0, ↓px_d1, ↓px_d2, ↓px_pop, ↓px_sp, ↓px_rd, ↓px_rf, ↓pn_xf, ↓px_pt, ↓px_sw, ↓pn_SW, ↓px_ma, ↓reduceIte, Nat.reduceEqDiff, Nat.reduceAdd, Nat.reduceSub, ↓Option.toList_some, ↓Option.toList_none, ↓List.cons_append, ↓List.nil_append, ↓kI_s, ↓kJ_s, ↓kN_s, ↓kO_s, ↓kZ_s, ↓kE_s, ↓an_rfl, ↓bt1 n00, ↓bt2 n00, ↓bf1 n10, ↓bf2 n10, ↓an_sz0, ↓an_sz1, ↓an_sz2, ↓an_sz3, ↓an_sz4, ↓an_ri, ↓an_rb0, ↓an_rb1, ↓an_b0, ↓an_b1, true_and, ↓ai_0s, ↓al_0s, ↓av_0s, ↓aq_0s, ↓ai_1s, ↓al_1s, ↓av_1s, ↓aq_1s, ↓ai_2s, ↓al_2s, ↓av_2s, ↓aq_2s, ↓ai_3s, ↓al_3s, ↓av_3s, ↓aq_3s, ↓ai_4s, ↓al_4s, ↓av_4s, ↓aq_4s, ↓ai_5s, ↓al_5s, ↓av_5s, ↓aq_5s, ↓ai_6s, ↓al_6s, ↓av_6s, ↓aq_6s, ↓ai_7s, ↓al_7s, ↓av_7s, ↓aq_7s, ↓an_l9, ↓bk_11031, ↓Sg_11016, ↓kp_11031_65, ↓kp_11031_113, ↓bf1 hc0, ↓bf2 hc0, ↓an_t hc1, ↓an_rv hc1, ↓oW_e hc2]
    exact hs
set_option maxHeartbeats 4000000 in
set_option maxRecDepth 100000 in
theorem rl_11031_42 {C : px_C} (hn : px_nd (px_tb C)) {h : Nat} (hh : 2 ≤ h) (hC : px_ok C pn_i11031 h) {k : Option px_V → px_M → Prop} {x0 : Nat} {x1 : Int32} {x2 : Int32} {x3 : Int32} {x4 : Int32} {x5 : Int32} {σ : px_M} (hs : oW (f_11031_42 (px_tb C) σ x0 x1 x2 x3 x4 x5) (Sum.elim (fun s : Int32 × Int32 × Int32 => ∀ (z5 : Option px_V) (z6 : Option px_V) (z7 : Option px_V) (z8 : Option px_V), px_W C k 7 [some (.inr (.inr (some x0))), some (.inl x1), some (.inl s.1), some (.inl s.2.1), some (.inl s.2.2), z5, z6, z7, z8] [] σ) (fun r => k (some (.inl r)) σ))) : ∀ (z6 : Option px_V) (z7 : Option px_V) (z8 : Option px_V), px_W C k 42 [some (.inr (.inr (some x0))), some (.inl x1), some (.inl x2), some (.inl x3), some (.inl x4), some (.inl x5), z6, z7, z8] [] σ := by
  intro z6 z7 z8
  refine px_runH (h - 1) ck_11031 [] [(48, kp_11031_48 (fun y0 y1 y2 y3 y4 y5 y6 y7 τ => y0 = x0 ∧ y1 = x1 ∧ τ = σ ∧ oW (f_11031_48 (px_tb C) τ y0 y1 y2 y3 y4 y5 y6 y7) (Sum.elim (fun s : Int32 × Int32 × Int32 => ∀ (z5 : Option px_V) (z6 : Option px_V) (z7 : Option px_V) (z8 : Option px_V), px_W C k 7 [some (.inr (.inr (some x0))), some (.inl x1), some (.inl s.1), some (.inl s.2.1), some (.inl s.2.2), z5, z6, z7, z8] [] σ) (fun r => k (some (.inl r)) σ))))] 80 9 (some .int) rfl rfl hC px_nosp (by omega) (px_cut1 (kq_11031_48 (fun y0 y1 y2 y3 y4 y5 y6 y7 τ hq => by obtain ⟨rfl, rfl, rfl, hq⟩ := hq; exact rl_11031_48 hn (by omega) hC (y5, y6, y7) hq)) px_nocut) (fun G Jf hG hJf => ?_)
  unfold f_11031_42 at hs
  simp only [↓hG, ↓hJf, ↓px_vc, ↓px_ex, ↓px_jp, ↓px_gi, ↓px_gl, ↓px_gr, ↓px_s1, ↓px_s2, ↓px_nl, ↓px_i1, ↓px_l1, ↓r1_s, ↓px_q1, ↓px_i2, ↓px_l2, ↓px_il, ↓px_d0, ↓px_d1, ↓px_d2, ↓px_pop, ↓px_sp, ↓px_rd, ↓px_rf, ↓pn_xf, ↓px_pt, ↓px_sw, ↓pn_SW, ↓px_ma, ↓reduceIte, Nat.reduceEqDiff, Nat.reduceAdd, Nat.reduceSub, ↓Option.toList_some, ↓Option.toList_none, ↓List.cons_append, ↓List.nil_append, ↓kI_s, ↓kJ_s, ↓kN_s, ↓kO_s, ↓kZ_s, ↓kE_s, ↓an_rfl, ↓bt1 n00, ↓bt2 n00, ↓bf1 n10, ↓bf2 n10, ↓an_sz0, ↓an_sz1, ↓an_sz2, ↓an_sz3, ↓an_sz4, ↓an_ri, ↓an_rb0, ↓an_rb1, ↓an_b0, ↓an_b1, true_and, ↓ai_0s, ↓al_0s, ↓av_0s, ↓aq_0s, ↓ai_1s, ↓al_1s, ↓av_1s, ↓aq_1s, ↓ai_2s, ↓al_2s, ↓av_2s, ↓aq_2s, ↓ai_3s, ↓al_3s, ↓av_3s, ↓aq_3s, ↓ai_4s, ↓al_4s, ↓av_4s, ↓aq_4s, ↓ai_5s, ↓al_5s, ↓av_5s, ↓aq_5s, ↓ai_6s, ↓al_6s, ↓av_6s, ↓aq_6s, ↓ai_7s, ↓al_7s, ↓av_7s, ↓aq_7s, ↓an_l9, ↓bk_11031, ↓kp_11031_48]
  exact hs
set_option maxHeartbeats 4000000 in
set_option maxRecDepth 100000 in
theorem rl_11031_7 {C : px_C} (hn : px_nd (px_tb C)) {h : Nat} (hh : 2 ≤ h) (hC : px_ok C pn_i11031 h) {k : Option px_V → px_M → Prop} {x0 : Nat} {x1 : Int32} {σ : px_M} : ∀ s : Int32 × Int32 × Int32, oW (f_11031_7 (px_tb C) σ x0 x1 s.1 s.2.1 s.2.2) (fun r => k (some (.inl r)) σ) → (fun s : Int32 × Int32 × Int32 => ∀ (z5 : Option px_V) (z6 : Option px_V) (z7 : Option px_V) (z8 : Option px_V), px_W C k 7 [some (.inr (.inr (some x0))), some (.inl x1), some (.inl s.1), some (.inl s.2.1), some (.inl s.2.2), z5, z6, z7, z8] [] σ) s := by
  intro s h0
  refine lpO_sound (P := (fun s : Int32 × Int32 × Int32 => ∀ (z5 : Option px_V) (z6 : Option px_V) (z7 : Option px_V) (z8 : Option px_V), px_W C k 7 [some (.inr (.inr (some x0))), some (.inl x1), some (.inl s.1), some (.inl s.2.1), some (.inl s.2.2), z5, z6, z7, z8] [] σ)) (fun s hs => ?_) h0
  obtain ⟨x2, x3, x4⟩ := s
  intro z5 z6 z7 z8
  refine px_runH (h - 1) ck_11031 [] [(7, kp_11031_7 (fun y0 y1 y2 y3 y4 τ => y0 = x0 ∧ y1 = x1 ∧ τ = σ ∧ (fun s : Int32 × Int32 × Int32 => ∀ (z5 : Option px_V) (z6 : Option px_V) (z7 : Option px_V) (z8 : Option px_V), px_W C k 7 [some (.inr (.inr (some x0))), some (.inl x1), some (.inl s.1), some (.inl s.2.1), some (.inl s.2.2), z5, z6, z7, z8] [] σ) (y2, y3, y4))), (42, kp_11031_42 (fun y0 y1 y2 y3 y4 y5 τ => y0 = x0 ∧ y1 = x1 ∧ τ = σ ∧ oW (f_11031_42 (px_tb C) τ y0 y1 y2 y3 y4 y5) (Sum.elim (fun s : Int32 × Int32 × Int32 => ∀ (z5 : Option px_V) (z6 : Option px_V) (z7 : Option px_V) (z8 : Option px_V), px_W C k 7 [some (.inr (.inr (some x0))), some (.inl x1), some (.inl s.1), some (.inl s.2.1), some (.inl s.2.2), z5, z6, z7, z8] [] σ) (fun r => k (some (.inl r)) σ))))] 80 9 (some .int) rfl rfl hC px_nosp (by omega) (px_cut1 (kq_11031_7 (fun y0 y1 y2 y3 y4 τ hq => by obtain ⟨rfl, rfl, rfl, hq⟩ := hq; exact hq)) (px_cut1 (kq_11031_42 (fun y0 y1 y2 y3 y4 y5 τ hq => by obtain ⟨rfl, rfl, rfl, hq⟩ := hq; exact rl_11031_42 hn (by omega) hC  hq)) px_nocut)) (fun G Jf hG hJf => ?_)
  replace hs : oW (F_11031_7 (px_tb C) σ x0 x1 x2 x3 x4) _ := hs
  unfold F_11031_7 at hs
  obtain ⟨hc0, hs⟩ := oW_gx hs
  by_cases hc1 : ((σ).1 x0 0) ≤ x4
  · replace hs := oW_t hs hc1
    simp only [↓hG, ↓hJf, ↓px_vc, ↓px_ex, ↓px_jp, ↓px_gi, ↓px_gl, ↓px_gr, ↓px_s1, ↓px_s2, ↓px_nl, ↓px_i1, ↓px_l1, ↓r1_s, ↓px_q1, ↓px_i2, ↓px_l2, ↓px_il, ↓px_d0, ↓px_d1, ↓px_d2, ↓px_pop, ↓px_sp, ↓px_rd, ↓px_rf, ↓pn_xf, ↓px_pt, ↓px_sw, ↓pn_SW, ↓px_ma, ↓reduceIte, Nat.reduceEqDiff, Nat.reduceAdd, Nat.reduceSub, ↓Option.toList_some, ↓Option.toList_none, ↓List.cons_append, ↓List.nil_append, ↓kI_s, ↓kJ_s, ↓kN_s, ↓kO_s, ↓kZ_s, ↓kE_s, ↓an_rfl, ↓bt1 n00, ↓bt2 n00, ↓bf1 n10, ↓bf2 n10, ↓an_sz0, ↓an_sz1, ↓an_sz2, ↓an_sz3, ↓an_sz4, ↓an_ri, ↓an_rb0, ↓an_rb1, ↓an_b0, ↓an_b1, true_and, ↓ai_0s, ↓al_0s, ↓av_0s, ↓aq_0s, ↓ai_1s, ↓al_1s, ↓av_1s, ↓aq_1s, ↓ai_2s, ↓al_2s, ↓av_2s, ↓aq_2s, ↓ai_3s, ↓al_3s, ↓av_3s, ↓aq_3s, ↓ai_4s, ↓al_4s, ↓av_4s, ↓aq_4s, ↓ai_5s, ↓al_5s, ↓av_5s, ↓aq_5s, ↓ai_6s, ↓al_6s, ↓av_6s, ↓aq_6s, ↓ai_7s, ↓al_7s, ↓av_7s, ↓aq_7s, ↓an_l9, ↓bk_11031, ↓kp_11031_7, ↓kp_11031_42, ↓an_t hc0, ↓an_rv hc0, ↓bt1 hc1, ↓bt2 hc1]
    rw [oW_some] at hs
    exact hs
  · replace hs := oW_f hs hc1
    by_cases hc2 : (((x1 &&& (x2 ^^^ (-1))) &&& (x3 ^^^ (-1))) &&& ((nI 1) <<< (x4 &&& 31))) = nI 0
    · replace hs := bW_t hs hc2
      simp only [↓hG, ↓hJf, ↓px_vc, ↓px_ex, ↓px_jp, ↓px_gi, ↓px_gl, ↓px_gr, ↓px_s1, ↓px_s2, ↓px_nl, ↓px_i1, ↓px_l1, ↓r1_s, ↓px_q1, ↓px_i2, ↓px_l2, ↓px_il, ↓px_d0, ↓px_d1, ↓px_d2, ↓px_pop, ↓px_sp, ↓px_rd, ↓px_rf, ↓pn_xf, ↓px_pt, ↓px_sw, ↓pn_SW, ↓px_ma, ↓reduceIte, Nat.reduceEqDiff, Nat.reduceAdd, Nat.reduceSub, ↓Option.toList_some, ↓Option.toList_none, ↓List.cons_append, ↓List.nil_append, ↓kI_s, ↓kJ_s, ↓kN_s, ↓kO_s, ↓kZ_s, ↓kE_s, ↓an_rfl, ↓bt1 n00, ↓bt2 n00, ↓bf1 n10, ↓bf2 n10, ↓an_sz0, ↓an_sz1, ↓an_sz2, ↓an_sz3, ↓an_sz4, ↓an_ri, ↓an_rb0, ↓an_rb1, ↓an_b0, ↓an_b1, true_and, ↓ai_0s, ↓al_0s, ↓av_0s, ↓aq_0s, ↓ai_1s, ↓al_1s, ↓av_1s, ↓aq_1s, ↓ai_2s, ↓al_2s, ↓av_2s, ↓aq_2s, ↓ai_3s, ↓al_3s, ↓av_3s, ↓aq_3s, ↓ai_4s, ↓al_4s, ↓av_4s, ↓aq_4s, ↓ai_5s, ↓al_5s, ↓av_5s, ↓aq_5s, ↓ai_6s, ↓al_6s, ↓av_6s, ↓aq_6s, ↓ai_7s, ↓al_7s, ↓av_7s, ↓aq_7s, ↓an_l9, ↓bk_11031, ↓kp_11031_7, ↓kp_11031_42, ↓an_t hc0, ↓an_rv hc0, ↓bf1 hc1, ↓bf2 hc1, ↓bt1 hc2, ↓bt2 hc2]
      rw [oW_some] at hs
      exact hs
    · replace hs := bW_f hs hc2
      simp only [↓hG, ↓hJf, ↓px_vc, ↓px_ex, ↓px_jp, ↓px_gi, ↓px_gl, ↓px_gr, ↓px_s1, ↓px_s2, ↓px_nl, ↓px_i1, ↓px_l1, ↓r1_s, ↓px_q1, ↓px_i2, ↓px_l2, ↓px_il, ↓px_d0, ↓px_d1, ↓px_d2, ↓px_pop, ↓px_sp, ↓px_rd, ↓px_rf, ↓pn_xf, ↓px_pt, ↓px_sw, ↓pn_SW, ↓px_ma, ↓reduceIte, Nat.reduceEqDiff, Nat.reduceAdd, Nat.reduceSub, ↓Option.toList_some, ↓Option.toList_none, ↓List.cons_append, ↓List.nil_append, ↓kI_s, ↓kJ_s, ↓kN_s, ↓kO_s, ↓kZ_s, ↓kE_s, ↓an_rfl, ↓bt1 n00, ↓bt2 n00, ↓bf1 n10, ↓bf2 n10, ↓an_sz0, ↓an_sz1, ↓an_sz2, ↓an_sz3, ↓an_sz4, ↓an_ri, ↓an_rb0, ↓an_rb1, ↓an_b0, ↓an_b1, true_and, ↓ai_0s, ↓al_0s, ↓av_0s, ↓aq_0s, ↓ai_1s, ↓al_1s, ↓av_1s, ↓aq_1s, ↓ai_2s, ↓al_2s, ↓av_2s, ↓aq_2s, ↓ai_3s, ↓al_3s, ↓av_3s, ↓aq_3s, ↓ai_4s, ↓al_4s, ↓av_4s, ↓aq_4s, ↓ai_5s, ↓al_5s, ↓av_5s, ↓aq_5s, ↓ai_6s, ↓al_6s, ↓av_6s, ↓aq_6s, ↓ai_7s, ↓al_7s, ↓av_7s, ↓aq_7s, ↓an_l9, ↓bk_11031, ↓kp_11031_7, ↓kp_11031_42, ↓an_t hc0, ↓an_rv hc0, ↓bf1 hc1, ↓bf2 hc1, ↓bf1 hc2, ↓bf2 hc2]
      exact hs
set_option maxHeartbeats 4000000 in
set_option maxRecDepth 100000 in
theorem mf_11031 {tab : px_T} (hn : px_nd tab) {h : Nat} (hh : 2 ≤ h) : px_Ok tab pn_i11031 h (Sg_11031 (f_11031 tab)) := by
  refine px_mth hn (by decide +kernel) (fun av σ k hS => ?_) (fun C hT hC av σ k hS => ?_)
  · obtain ⟨x0, av0, e0, h0⟩ := av_0p hS
    obtain ⟨x1, av1, e1, h1⟩ := ai_1p h0
    obtain ⟨ez, hs⟩ := h1
    subst ez
    subst e1
    subst e0
    exact Nat.le_of_ble_eq_true rfl
  · obtain ⟨x0, av0, e0, h0⟩ := av_0p hS
    obtain ⟨x1, av1, e1, h1⟩ := ai_1p h0
    obtain ⟨ez, hs⟩ := h1
    subst ez
    subst e1
    subst e0
    subst hT
    show px_W C k 0 [some (.inr (.inr (some x0))), some (.inl x1), none, none, none, none, none, none, none] [] σ
    refine px_runH (h - 1) ck_11031 [] [(7, kp_11031_7 (fun y0 y1 y2 y3 y4 τ => τ = σ ∧ oW (f_11031_7 (px_tb C) τ y0 y1 y2 y3 y4) (fun r => k (some (.inl r)) σ)))] 80 9 (some .int) rfl rfl hC px_nosp (by omega) (px_cut1 (kq_11031_7 (fun y0 y1 y2 y3 y4 τ hq => by obtain ⟨rfl, hq⟩ := hq; exact rl_11031_7 hn (by omega) hC (y2, y3, y4) hq)) px_nocut) (fun G Jf hG hJf => ?_)
    unfold f_11031 at hs
    simp only [↓hG, ↓hJf, ↓px_vc, ↓px_ex, ↓px_jp, ↓px_gi, ↓px_gl, ↓px_gr, ↓px_s1, ↓px_s2, ↓px_nl, ↓px_i1, ↓px_l1, ↓r1_s, ↓px_q1, ↓px_i2, ↓px_l2, ↓px_il, ↓px_d0, ↓px_d1, ↓px_d2, ↓px_pop, ↓px_sp, ↓px_rd, ↓px_rf, ↓pn_xf, ↓px_pt, ↓px_sw, ↓pn_SW, ↓px_ma, ↓reduceIte, Nat.reduceEqDiff, Nat.reduceAdd, Nat.reduceSub, ↓Option.toList_some, ↓Option.toList_none, ↓List.cons_append, ↓List.nil_append, ↓kI_s, ↓kJ_s, ↓kN_s, ↓kO_s, ↓kZ_s, ↓kE_s, ↓an_rfl, ↓bt1 n00, ↓bt2 n00, ↓bf1 n10, ↓bf2 n10, ↓an_sz0, ↓an_sz1, ↓an_sz2, ↓an_sz3, ↓an_sz4, ↓an_ri, ↓an_rb0, ↓an_rb1, ↓an_b0, ↓an_b1, true_and, ↓ai_0s, ↓al_0s, ↓av_0s, ↓aq_0s, ↓ai_1s, ↓al_1s, ↓av_1s, ↓aq_1s, ↓ai_2s, ↓al_2s, ↓av_2s, ↓aq_2s, ↓ai_3s, ↓al_3s, ↓av_3s, ↓aq_3s, ↓ai_4s, ↓al_4s, ↓av_4s, ↓aq_4s, ↓ai_5s, ↓al_5s, ↓av_5s, ↓aq_5s, ↓ai_6s, ↓al_6s, ↓av_6s, ↓aq_6s, ↓ai_7s, ↓al_7s, ↓av_7s, ↓aq_7s, ↓an_l9, ↓bk_11031, ↓kp_11031_7]
    exact hs
def Sg_8002 (g : px_M → Nat → Nat → Int32 → Option (Int32 × px_M)) : px_S := fun av σ k => av_0 av (fun x0 av => av_1 av (fun x1 av => ai_2 av (fun x2 av => av = [] ∧ oW (g σ x0 x1 x2) (fun q => k (some (.inl q.1)) q.2))))
/-- NoThree$Painter.fewest(LNoThree$Town;I)I -/
noncomputable def f_8002_74 (tab : px_T) (σ : px_M) (x0 : Nat) (x2 : Int32) (x3 : Int32) : Option ((Int32 × px_M) ⊕ (Int32 × px_M)) := some (.inl (((x3 + (nI 1)), σ)))
noncomputable def f_8002_72 (tab : px_T) (σ : px_M) (x3 : Int32) : Option (Int32 × px_M) := some ((x3, σ))
noncomputable def F_8002_42 (tab : px_T) (x0 : Nat) (x2 : Int32) (x3 : Int32) (σ : px_M) : Option ((Int32 × px_M) ⊕ (Int32 × px_M)) := if (nI 11) ≤ x3 then (some (.inr (((nI 11), σ)))) else (gd (px_obj (px_lay tab x0) 8) ((((σ).2.2 x0 0)).bind fun n1 => (f_22000 tab σ n1 ((nI 0))).bind fun q2 => (f_8003 tab q2 x0 x2 x3).bind fun r3 => (f_8004 tab 24 q2 x0 r3 ((nI 0)) x3 ((nI 0))).bind fun q4 => if q4.1 = nI 0 then (f_8002_74 tab q4.2 x0 x2 x3) else (Option.map Sum.inr (f_8002_72 tab q4.2 x3))))
noncomputable def f_8002_42 (tab : px_T) (x0 : Nat) (x2 : Int32) (x3 : Int32) (σ : px_M) : Option (Int32 × px_M) := lpO (fun s : Int32 × px_M => F_8002_42 tab x0 x2 s.1 s.2) (x3, σ)
theorem f_8002_42_eq (tab : px_T) (x0 : Nat) (x2 : Int32) (x3 : Int32) (σ : px_M) : f_8002_42 tab x0 x2 x3 σ = (F_8002_42 tab x0 x2 x3 σ).bind (Sum.elim (fun s => f_8002_42 tab x0 x2 s.1 s.2) some) := lpO_eq _ _
noncomputable def f_8002_40 (tab : px_T) (σ : px_M) (x0 : Nat) (x2 : Int32) : Option (Int32 × px_M) := f_8002_42 tab x0 x2 ((nI 3)) σ
noncomputable def f_8002_38 (tab : px_T) (σ : px_M) : Option (Int32 × px_M) := some (((nI 2), σ))
noncomputable def f_8002 (tab : px_T) (σ : px_M) (x0 : Nat) (x1 : Nat) (x2 : Int32) : Option (Int32 × px_M) := gd (px_obj (px_lay tab x0) 8) (bn (x2 = nI 0) (((((px_wr σ x0 2 (some x1))).2.2 x0 2)).bind fun n1 => gd (px_obj (px_lay tab n1) 11) ((f_11016 tab (px_wr σ x0 2 (some x1)) n1 x2).bind fun r2 => bn ((r2 &&& x2) = nI 0) ((f_11031 tab (px_wr σ x0 2 (some x1)) n1 x2).bind fun r3 => if r3 = (-1) then (f_8002_40 tab ((px_wr σ x0 2 (some x1))) x0 x2) else (f_8002_38 tab ((px_wr σ x0 2 (some x1))))) (some (((nI 1), (px_wr σ x0 2 (some x1))))))) (some (((nI 0), (px_wr σ x0 2 (some x1))))))
def kp_8002_74 (Q : Nat → Int32 → Int32 → px_M → Prop) : px_P := fun ls st τ => st = [] ∧ kN ls (fun x0 ls => kZ ls (fun ls => kI ls (fun x2 ls => kI ls (fun x3 ls => kE ls (Q x0 x2 x3 τ)))))
theorem kq_8002_74 {C : px_C} {k : Option px_V → px_M → Prop} {Q : Nat → Int32 → Int32 → px_M → Prop} (H : ∀ (x0 : Nat) (x2 : Int32) (x3 : Int32) (τ : px_M), Q x0 x2 x3 τ → ∀ (z1 : Option px_V), px_W C k 74 [some (.inr (.inr (some x0))), z1, some (.inl x2), some (.inl x3)] [] τ) : ∀ ls st τ, kp_8002_74 Q ls st τ → px_W C k 74 ls st τ := by
  intro ls st τ hz
  obtain ⟨ez, h0⟩ := hz
  obtain ⟨x0, l0, e0, h1⟩ := kN_sp h0
  obtain ⟨z1, l1, e1, h2⟩ := kZ_sp h1
  obtain ⟨x2, l2, e2, h3⟩ := kI_sp h2
  obtain ⟨x3, l3, e3, h4⟩ := kI_sp h3
  obtain ⟨ey, hy⟩ := kE_sp h4
  subst ez
  subst ey
  subst e3
  subst e2
  subst e1
  subst e0
  exact H x0 x2 x3 τ hy z1
def kp_8002_72 (Q : Int32 → px_M → Prop) : px_P := fun ls st τ => st = [] ∧ kZ ls (fun ls => kZ ls (fun ls => kZ ls (fun ls => kI ls (fun x3 ls => kE ls (Q x3 τ)))))
theorem kq_8002_72 {C : px_C} {k : Option px_V → px_M → Prop} {Q : Int32 → px_M → Prop} (H : ∀ (x3 : Int32) (τ : px_M), Q x3 τ → ∀ (z0 : Option px_V) (z1 : Option px_V) (z2 : Option px_V), px_W C k 72 [z0, z1, z2, some (.inl x3)] [] τ) : ∀ ls st τ, kp_8002_72 Q ls st τ → px_W C k 72 ls st τ := by
  intro ls st τ hz
  obtain ⟨ez, h0⟩ := hz
  obtain ⟨z0, l0, e0, h1⟩ := kZ_sp h0
  obtain ⟨z1, l1, e1, h2⟩ := kZ_sp h1
  obtain ⟨z2, l2, e2, h3⟩ := kZ_sp h2
  obtain ⟨x3, l3, e3, h4⟩ := kI_sp h3
  obtain ⟨ey, hy⟩ := kE_sp h4
  subst ez
  subst ey
  subst e3
  subst e2
  subst e1
  subst e0
  exact H x3 τ hy z0 z1 z2
def kp_8002_42 (Q : Nat → Int32 → Int32 → px_M → Prop) : px_P := fun ls st τ => st = [] ∧ kN ls (fun x0 ls => kZ ls (fun ls => kI ls (fun x2 ls => kI ls (fun x3 ls => kE ls (Q x0 x2 x3 τ)))))
theorem kq_8002_42 {C : px_C} {k : Option px_V → px_M → Prop} {Q : Nat → Int32 → Int32 → px_M → Prop} (H : ∀ (x0 : Nat) (x2 : Int32) (x3 : Int32) (τ : px_M), Q x0 x2 x3 τ → ∀ (z1 : Option px_V), px_W C k 42 [some (.inr (.inr (some x0))), z1, some (.inl x2), some (.inl x3)] [] τ) : ∀ ls st τ, kp_8002_42 Q ls st τ → px_W C k 42 ls st τ := by
  intro ls st τ hz
  obtain ⟨ez, h0⟩ := hz
  obtain ⟨x0, l0, e0, h1⟩ := kN_sp h0
  obtain ⟨z1, l1, e1, h2⟩ := kZ_sp h1
  obtain ⟨x2, l2, e2, h3⟩ := kI_sp h2
  obtain ⟨x3, l3, e3, h4⟩ := kI_sp h3
  obtain ⟨ey, hy⟩ := kE_sp h4
  subst ez
  subst ey
  subst e3
  subst e2
  subst e1
  subst e0
  exact H x0 x2 x3 τ hy z1
def kp_8002_40 (Q : Nat → Int32 → px_M → Prop) : px_P := fun ls st τ => st = [] ∧ kN ls (fun x0 ls => kZ ls (fun ls => kI ls (fun x2 ls => kZ ls (fun ls => kE ls (Q x0 x2 τ)))))
theorem kq_8002_40 {C : px_C} {k : Option px_V → px_M → Prop} {Q : Nat → Int32 → px_M → Prop} (H : ∀ (x0 : Nat) (x2 : Int32) (τ : px_M), Q x0 x2 τ → ∀ (z1 : Option px_V) (z3 : Option px_V), px_W C k 40 [some (.inr (.inr (some x0))), z1, some (.inl x2), z3] [] τ) : ∀ ls st τ, kp_8002_40 Q ls st τ → px_W C k 40 ls st τ := by
  intro ls st τ hz
  obtain ⟨ez, h0⟩ := hz
  obtain ⟨x0, l0, e0, h1⟩ := kN_sp h0
  obtain ⟨z1, l1, e1, h2⟩ := kZ_sp h1
  obtain ⟨x2, l2, e2, h3⟩ := kI_sp h2
  obtain ⟨z3, l3, e3, h4⟩ := kZ_sp h3
  obtain ⟨ey, hy⟩ := kE_sp h4
  subst ez
  subst ey
  subst e3
  subst e2
  subst e1
  subst e0
  exact H x0 x2 τ hy z1 z3
def kp_8002_38 (Q : px_M → Prop) : px_P := fun ls st τ => st = [] ∧ kZ ls (fun ls => kZ ls (fun ls => kZ ls (fun ls => kZ ls (fun ls => kE ls (Q τ)))))
theorem kq_8002_38 {C : px_C} {k : Option px_V → px_M → Prop} {Q : px_M → Prop} (H : ∀ (τ : px_M), Q τ → ∀ (z0 : Option px_V) (z1 : Option px_V) (z2 : Option px_V) (z3 : Option px_V), px_W C k 38 [z0, z1, z2, z3] [] τ) : ∀ ls st τ, kp_8002_38 Q ls st τ → px_W C k 38 ls st τ := by
  intro ls st τ hz
  obtain ⟨ez, h0⟩ := hz
  obtain ⟨z0, l0, e0, h1⟩ := kZ_sp h0
  obtain ⟨z1, l1, e1, h2⟩ := kZ_sp h1
  obtain ⟨z2, l2, e2, h3⟩ := kZ_sp h2
  obtain ⟨z3, l3, e3, h4⟩ := kZ_sp h3
  obtain ⟨ey, hy⟩ := kE_sp h4
  subst ez
  subst ey
  subst e3
  subst e2
  subst e1
  subst e0
  exact H τ hy z0 z1 z2 z3
set_option maxHeartbeats 4000000 in
set_option maxRecDepth 100000 in
theorem rl_8002_74 {C : px_C} (hn : px_nd (px_tb C)) {h : Nat} (hh : 27 ≤ h) (hC : px_ok C pn_i8002 h) {k : Option px_V → px_M → Prop} {x0 : Nat} {x2 : Int32} {x3 : Int32} {σ : px_M} (hs : oW (f_8002_74 (px_tb C) σ x0 x2 x3) (Sum.elim (fun s : Int32 × px_M => ∀ (z1 : Option px_V), px_W C k 42 [some (.inr (.inr (some x0))), z1, some (.inl x2), some (.inl s.1)] [] s.2) (fun q => k (some (.inl q.1)) q.2))) : ∀ (z1 : Option px_V), px_W C k 74 [some (.inr (.inr (some x0))), z1, some (.inl x2), some (.inl x3)] [] σ := by
  intro z1
  refine px_runH (h - 1) ck_8002 [] [(42, kp_8002_42 (fun y0 y2 y3 τ => y0 = x0 ∧ y2 = x2 ∧ (fun s : Int32 × px_M => ∀ (z1 : Option px_V), px_W C k 42 [some (.inr (.inr (some x0))), z1, some (.inl x2), some (.inl s.1)] [] s.2) (y3, τ)))] 80 4 (some .int) rfl rfl hC px_nosp (by omega) (px_cut1 (kq_8002_42 (fun y0 y2 y3 τ hq => by obtain ⟨rfl, rfl, hq⟩ := hq; exact hq)) px_nocut) (fun G Jf hG hJf => ?_)
  unfold f_8002_74 at hs
  simp only [↓hG, ↓hJf, ↓px_vc, ↓px_ex, ↓px_jp, ↓px_gi, ↓px_gl, ↓px_gr, ↓px_s1, ↓px_s2, ↓px_nl, ↓px_i1, ↓px_l1, ↓r1_s, ↓px_q1, ↓px_i2, ↓px_l2, ↓px_il, ↓px_d0, ↓px_d1, ↓px_d2, ↓px_pop, ↓px_sp, ↓px_rd, ↓px_rf, ↓pn_xf, ↓px_pt, ↓px_sw, ↓pn_SW, ↓px_ma, ↓reduceIte, Nat.reduceEqDiff, Nat.reduceAdd, Nat.reduceSub, ↓Option.toList_some, ↓Option.toList_none, ↓List.cons_append, ↓List.nil_append, ↓kI_s, ↓kJ_s, ↓kN_s, ↓kO_s, ↓kZ_s, ↓kE_s, ↓an_rfl, ↓bt1 n00, ↓bt2 n00, ↓bf1 n10, ↓bf2 n10, ↓an_sz0, ↓an_sz1, ↓an_sz2, ↓an_sz3, ↓an_sz4, ↓an_ri, ↓an_rb0, ↓an_rb1, ↓an_b0, ↓an_b1, true_and, ↓ai_0s, ↓al_0s, ↓av_0s, ↓aq_0s, ↓ai_1s, ↓al_1s, ↓av_1s, ↓aq_1s, ↓ai_2s, ↓al_2s, ↓av_2s, ↓aq_2s, ↓ai_3s, ↓al_3s, ↓av_3s, ↓aq_3s, ↓ai_4s, ↓al_4s, ↓av_4s, ↓aq_4s, ↓ai_5s, ↓al_5s, ↓av_5s, ↓aq_5s, ↓ai_6s, ↓al_6s, ↓av_6s, ↓aq_6s, ↓ai_7s, ↓al_7s, ↓av_7s, ↓aq_7s, ↓an_l4, ↓bk_8002, ↓kp_8002_42]
  rw [oW_some] at hs
  exact hs
set_option maxHeartbeats 4000000 in
set_option maxRecDepth 100000 in
theorem rl_8002_72 {C : px_C} (hn : px_nd (px_tb C)) {h : Nat} (hh : 27 ≤ h) (hC : px_ok C pn_i8002 h) {k : Option px_V → px_M → Prop} {x3 : Int32} {σ : px_M} (hs : oW (f_8002_72 (px_tb C) σ x3) (fun q => k (some (.inl q.1)) q.2)) : ∀ (z0 : Option px_V) (z1 : Option px_V) (z2 : Option px_V), px_W C k 72 [z0, z1, z2, some (.inl x3)] [] σ := by
  intro z0 z1 z2
  refine px_runH (h - 1) ck_8002 [] [] 80 4 (some .int) rfl rfl hC px_nosp (by omega) px_nocut (fun G Jf hG hJf => ?_)
  unfold f_8002_72 at hs
  simp only [↓hG, ↓hJf, ↓px_vc, ↓px_ex, ↓px_jp, ↓px_gi, ↓px_gl, ↓px_gr, ↓px_s1, ↓px_s2, ↓px_nl, ↓px_i1, ↓px_l1, ↓r1_s, ↓px_q1, ↓px_i2, ↓px_l2, ↓px_il, ↓px_d0, ↓px_d1, ↓px_d2, ↓px_pop, ↓px_sp, ↓px_rd, ↓px_rf, ↓pn_xf, ↓px_pt, ↓px_sw, ↓pn_SW, ↓px_ma, ↓reduceIte, Nat.reduceEqDiff, Nat.reduceAdd, Nat.reduceSub, ↓Option.toList_some, ↓Option.toList_none, ↓List.cons_append, ↓List.nil_append, ↓kI_s, ↓kJ_s, ↓kN_s, ↓kO_s, ↓kZ_s, ↓kE_s, ↓an_rfl, ↓bt1 n00, ↓bt2 n00, ↓bf1 n10, ↓bf2 n10, ↓an_sz0, ↓an_sz1, ↓an_sz2, ↓an_sz3, ↓an_sz4, ↓an_ri, ↓an_rb0, ↓an_rb1, ↓an_b0, ↓an_b1, true_and, ↓ai_0s, ↓al_0s, ↓av_0s, ↓aq_0s, ↓ai_1s, ↓al_1s, ↓av_1s, ↓aq_1s, ↓ai_2s, ↓al_2s, ↓av_2s, ↓aq_2s, ↓ai_3s, ↓al_3s, ↓av_3s, ↓aq_3s, ↓ai_4s, ↓al_4s, ↓av_4s, ↓aq_4s, ↓ai_5s, ↓al_5s, ↓av_5s, ↓aq_5s, ↓ai_6s, ↓al_6s, ↓av_6s, ↓aq_6s, ↓ai_7s, ↓al_7s, ↓av_7s, ↓aq_7s, ↓an_l4, ↓bk_8002]
  rw [oW_some] at hs
  exact hs
set_option maxHeartbeats 4000000 in
set_option maxRecDepth 100000 in
theorem rl_8002_42 {C : px_C} (hn : px_nd (px_tb C)) {h : Nat} (hh : 27 ≤ h) (hC : px_ok C pn_i8002 h) {k : Option px_V → px_M → Prop} {x0 : Nat} {x2 : Int32} : ∀ s : Int32 × px_M, oW (f_8002_42 (px_tb C) x0 x2 s.1 s.2) (fun q => k (some (.inl q.1)) q.2) → (fun s : Int32 × px_M => ∀ (z1 : Option px_V), px_W C k 42 [some (.inr (.inr (some x0))), z1, some (.inl x2), some (.inl s.1)] [] s.2) s := by
  intro s h0
  refine lpO_sound (P := (fun s : Int32 × px_M => ∀ (z1 : Option px_V), px_W C k 42 [some (.inr (.inr (some x0))), z1, some (.inl x2), some (.inl s.1)] [] s.2)) (fun s hs => ?_) h0
  obtain ⟨x3, σ⟩ := s
  intro z1
  refine px_runH (h - 1) ck_8002 [(8003, Sg_8003 (f_8003 (px_tb C))), (8004, Sg_8004 (f_8004 (px_tb C) 24)), (22000, Sg_22000 (f_22000 (px_tb C)))] [(72, kp_8002_72 (fun y3 τ => oW (f_8002_72 (px_tb C) τ y3) (fun q => k (some (.inl q.1)) q.2))), (74, kp_8002_74 (fun y0 y2 y3 τ => y0 = x0 ∧ y2 = x2 ∧ oW (f_8002_74 (px_tb C) τ y0 y2 y3) (Sum.elim (fun s : Int32 × px_M => ∀ (z1 : Option px_V), px_W C k 42 [some (.inr (.inr (some x0))), z1, some (.inl x2), some (.inl s.1)] [] s.2) (fun q => k (some (.inl q.1)) q.2))))] 80 4 (some .int) rfl rfl hC (px_sp1 (mf_8003 hn (by omega)) (px_sp1 (mf_8004 hn (by omega)) (px_sp1 (mf_22000 hn (by omega)) px_nosp))) (by omega) (px_cut1 (kq_8002_72 (fun y3 τ hq => by exact rl_8002_72 hn (by omega) hC  hq)) (px_cut1 (kq_8002_74 (fun y0 y2 y3 τ hq => by obtain ⟨rfl, rfl, hq⟩ := hq; exact rl_8002_74 hn (by omega) hC  hq)) px_nocut)) (fun G Jf hG hJf => ?_)
  replace hs : oW (F_8002_42 (px_tb C) x0 x2 x3 σ) _ := hs
  unfold F_8002_42 at hs
  by_cases hc0 : (nI 11) ≤ x3
  · replace hs := oW_t hs hc0
    simp only [↓hG, ↓hJf, ↓px_vc, ↓px_ex, ↓px_jp, ↓px_gi, ↓px_gl, ↓px_gr, ↓px_s1, ↓px_s2, ↓px_nl, ↓px_i1, ↓px_l1, ↓r1_s, ↓px_q1, ↓px_i2, ↓px_l2, ↓px_il, ↓px_d0, ↓px_d1, ↓px_d2, ↓px_pop, ↓px_sp, ↓px_rd, ↓px_rf, ↓pn_xf, ↓px_pt, ↓px_sw, ↓pn_SW, ↓px_ma, ↓reduceIte, Nat.reduceEqDiff, Nat.reduceAdd, Nat.reduceSub, ↓Option.toList_some, ↓Option.toList_none, ↓List.cons_append, ↓List.nil_append, ↓kI_s, ↓kJ_s, ↓kN_s, ↓kO_s, ↓kZ_s, ↓kE_s, ↓an_rfl, ↓bt1 n00, ↓bt2 n00, ↓bf1 n10, ↓bf2 n10, ↓an_sz0, ↓an_sz1, ↓an_sz2, ↓an_sz3, ↓an_sz4, ↓an_ri, ↓an_rb0, ↓an_rb1, ↓an_b0, ↓an_b1, true_and, ↓ai_0s, ↓al_0s, ↓av_0s, ↓aq_0s, ↓ai_1s, ↓al_1s, ↓av_1s, ↓aq_1s, ↓ai_2s, ↓al_2s, ↓av_2s, ↓aq_2s, ↓ai_3s, ↓al_3s, ↓av_3s, ↓aq_3s, ↓ai_4s, ↓al_4s, ↓av_4s, ↓aq_4s, ↓ai_5s, ↓al_5s, ↓av_5s, ↓aq_5s, ↓ai_6s, ↓al_6s, ↓av_6s, ↓aq_6s, ↓ai_7s, ↓al_7s, ↓av_7s, ↓aq_7s, ↓an_l4, ↓bk_8002, ↓Sg_8003, ↓Sg_8004, ↓Sg_22000, ↓kp_8002_72, ↓kp_8002_74, ↓bt1 hc0, ↓bt2 hc0]
    rw [oW_some] at hs
    exact hs
  · replace hs := oW_f hs hc0
    obtain ⟨hc1, hs⟩ := oW_gx hs
    obtain ⟨n1, hc2, hs⟩ := oW_bx hs
    obtain ⟨q2, hc3, hs⟩ := oW_bx hs
    obtain ⟨r3, hc4, hs⟩ := oW_bx hs
    obtain ⟨q4, hc5, hs⟩ := oW_bx hs
    by_cases hc6 : q4.1 = nI 0
    · replace hs := oW_t hs hc6
      simp only [↓hG, ↓hJf, ↓px_vc, ↓px_ex, ↓px_jp, ↓px_gi, ↓px_gl, ↓px_gr, ↓px_s1, ↓px_s2, ↓px_nl, ↓px_i1, ↓px_l1, ↓r1_s, ↓px_q1, ↓px_i2, ↓px_l2, ↓px_il, ↓px_d0, ↓px_d1, ↓px_d2, ↓px_pop, ↓px_sp, ↓px_rd, ↓px_rf, ↓pn_xf, ↓px_pt, ↓px_sw, ↓pn_SW, ↓px_ma, ↓reduceIte, Nat.reduceEqDiff, Nat.reduceAdd, Nat.reduceSub, ↓Option.toList_some, ↓Option.toList_none, ↓List.cons_append, ↓List.nil_append, ↓kI_s, ↓kJ_s, ↓kN_s, ↓kO_s, ↓kZ_s, ↓kE_s, ↓an_rfl, ↓bt1 n00, ↓bt2 n00, ↓bf1 n10, ↓bf2 n10, ↓an_sz0, ↓an_sz1, ↓an_sz2, ↓an_sz3, ↓an_sz4, ↓an_ri, ↓an_rb0, ↓an_rb1, ↓an_b0, ↓an_b1, true_and, ↓ai_0s, ↓al_0s, ↓av_0s, ↓aq_0s, ↓ai_1s, ↓al_1s, ↓av_1s, ↓aq_1s, ↓ai_2s, ↓al_2s, ↓av_2s, ↓aq_2s, ↓ai_3s, ↓al_3s, ↓av_3s, ↓aq_3s, ↓ai_4s, ↓al_4s, ↓av_4s, ↓aq_4s, ↓ai_5s, ↓al_5s, ↓av_5s, ↓aq_5s, ↓ai_6s, ↓al_6s, ↓av_6s, ↓aq_6s, ↓ai_7s, ↓al_7s, ↓av_7s, ↓aq_7s, ↓an_l4, ↓bk_8002, ↓Sg_8003, ↓Sg_8004, ↓Sg_22000, ↓kp_8002_72, ↓kp_8002_74, ↓bf1 hc0, ↓bf2 hc0, ↓an_t hc1, ↓an_rv hc1, ↓r1_e hc2, ↓av_0e hc2, ↓av_1e hc2, ↓av_2e hc2, ↓av_3e hc2, ↓oW_e hc3, ↓oW_e hc4, ↓oW_e hc5, ↓bt1 hc6, ↓bt2 hc6]
      exact hs
    · replace hs := oW_f hs hc6
      simp only [↓hG, ↓hJf, ↓px_vc, ↓px_ex, ↓px_jp, ↓px_gi, ↓px_gl, ↓px_gr, ↓px_s1, ↓px_s2, ↓px_nl, ↓px_i1, ↓px_l1, ↓r1_s, ↓px_q1, ↓px_i2, ↓px_l2, ↓px_il, ↓px_d0, ↓px_d1, ↓px_d2, ↓px_pop, ↓px_sp, ↓px_rd, ↓px_rf, ↓pn_xf, ↓px_pt, ↓px_sw, ↓pn_SW, ↓px_ma, ↓reduceIte, Nat.reduceEqDiff, Nat.reduceAdd, Nat.reduceSub, ↓Option.toList_some, ↓Option.toList_none, ↓List.cons_append, ↓List.nil_append, ↓kI_s, ↓kJ_s, ↓kN_s, ↓kO_s, ↓kZ_s, ↓kE_s, ↓an_rfl, ↓bt1 n00, ↓bt2 n00, ↓bf1 n10, ↓bf2 n10, ↓an_sz0, ↓an_sz1, ↓an_sz2, ↓an_sz3, ↓an_sz4, ↓an_ri, ↓an_rb0, ↓an_rb1, ↓an_b0, ↓an_b1, true_and, ↓ai_0s, ↓al_0s, ↓av_0s, ↓aq_0s, ↓ai_1s, ↓al_1s, ↓av_1s, ↓aq_1s, ↓ai_2s, ↓al_2s, ↓av_2s, ↓aq_2s, ↓ai_3s, ↓al_3s, ↓av_3s, ↓aq_3s, ↓ai_4s, ↓al_4s, ↓av_4s, ↓aq_4s, ↓ai_5s, ↓al_5s, ↓av_5s, ↓aq_5s, ↓ai_6s, ↓al_6s, ↓av_6s, ↓aq_6s, ↓ai_7s, ↓al_7s, ↓av_7s, ↓aq_7s, ↓an_l4, ↓bk_8002, ↓Sg_8003, ↓Sg_8004, ↓Sg_22000, ↓kp_8002_72, ↓kp_8002_74, ↓bf1 hc0, ↓bf2 hc0, ↓an_t hc1, ↓an_rv hc1, ↓r1_e hc2, ↓av_0e hc2, ↓av_1e hc2, ↓av_2e hc2, ↓av_3e hc2, ↓oW_e hc3, ↓oW_e hc4, ↓oW_e hc5, ↓bf1 hc6, ↓bf2 hc6]
      simp only [oW_map] at hs
      exact hs
set_option maxHeartbeats 4000000 in
set_option maxRecDepth 100000 in
theorem rl_8002_40 {C : px_C} (hn : px_nd (px_tb C)) {h : Nat} (hh : 27 ≤ h) (hC : px_ok C pn_i8002 h) {k : Option px_V → px_M → Prop} {x0 : Nat} {x2 : Int32} {σ : px_M} (hs : oW (f_8002_40 (px_tb C) σ x0 x2) (fun q => k (some (.inl q.1)) q.2)) : ∀ (z1 : Option px_V) (z3 : Option px_V), px_W C k 40 [some (.inr (.inr (some x0))), z1, some (.inl x2), z3] [] σ := by
  intro z1 z3
  refine px_runH (h - 1) ck_8002 [] [(42, kp_8002_42 (fun y0 y2 y3 τ => oW (f_8002_42 (px_tb C) y0 y2 y3 τ) (fun q => k (some (.inl q.1)) q.2)))] 80 4 (some .int) rfl rfl hC px_nosp (by omega) (px_cut1 (kq_8002_42 (fun y0 y2 y3 τ hq => by exact rl_8002_42 hn (by omega) hC (y3, τ) hq)) px_nocut) (fun G Jf hG hJf => ?_)
  unfold f_8002_40 at hs
  simp only [↓hG, ↓hJf, ↓px_vc, ↓px_ex, ↓px_jp, ↓px_gi, ↓px_gl, ↓px_gr, ↓px_s1, ↓px_s2, ↓px_nl, ↓px_i1, ↓px_l1, ↓r1_s, ↓px_q1, ↓px_i2, ↓px_l2, ↓px_il, ↓px_d0, ↓px_d1, ↓px_d2, ↓px_pop, ↓px_sp, ↓px_rd, ↓px_rf, ↓pn_xf, ↓px_pt, ↓px_sw, ↓pn_SW, ↓px_ma, ↓reduceIte, Nat.reduceEqDiff, Nat.reduceAdd, Nat.reduceSub, ↓Option.toList_some, ↓Option.toList_none, ↓List.cons_append, ↓List.nil_append, ↓kI_s, ↓kJ_s, ↓kN_s, ↓kO_s, ↓kZ_s, ↓kE_s, ↓an_rfl, ↓bt1 n00, ↓bt2 n00, ↓bf1 n10, ↓bf2 n10, ↓an_sz0, ↓an_sz1, ↓an_sz2, ↓an_sz3, ↓an_sz4, ↓an_ri, ↓an_rb0, ↓an_rb1, ↓an_b0, ↓an_b1, true_and, ↓ai_0s, ↓al_0s, ↓av_0s, ↓aq_0s, ↓ai_1s, ↓al_1s, ↓av_1s, ↓aq_1s, ↓ai_2s, ↓al_2s, ↓av_2s, ↓aq_2s, ↓ai_3s, ↓al_3s, ↓av_3s, ↓aq_3s, ↓ai_4s, ↓al_4s, ↓av_4s, ↓aq_4s, ↓ai_5s, ↓al_5s, ↓av_5s, ↓aq_5s, ↓ai_6s, ↓al_6s, ↓av_6s, ↓aq_6s, ↓ai_7s, ↓al_7s, ↓av_7s, ↓aq_7s, ↓an_l4, ↓bk_8002, ↓kp_8002_42]
  exact hs
set_option maxHeartbeats 4000000 in
set_option maxRecDepth 100000 in
theorem rl_8002_38 {C : px_C} (hn : px_nd (px_tb C)) {h : Nat} (hh : 27 ≤ h) (hC : px_ok C pn_i8002 h) {k : Option px_V → px_M → Prop} {σ : px_M} (hs : oW (f_8002_38 (px_tb C) σ) (fun q => k (some (.inl q.1)) q.2)) : ∀ (z0 : Option px_V) (z1 : Option px_V) (z2 : Option px_V) (z3 : Option px_V), px_W C k 38 [z0, z1, z2, z3] [] σ := by
  intro z0 z1 z2 z3
  refine px_runH (h - 1) ck_8002 [] [] 80 4 (some .int) rfl rfl hC px_nosp (by omega) px_nocut (fun G Jf hG hJf => ?_)
  unfold f_8002_38 at hs
  simp only [↓hG, ↓hJf, ↓px_vc, ↓px_ex, ↓px_jp, ↓px_gi, ↓px_gl, ↓px_gr, ↓px_s1, ↓px_s2, ↓px_nl, ↓px_i1, ↓px_l1, ↓r1_s, ↓px_q1, ↓px_i2, ↓px_l2, ↓px_il, ↓px_d0, ↓px_d1, ↓px_d2, ↓px_pop, ↓px_sp, ↓px_rd, ↓px_rf, ↓pn_xf, ↓px_pt, ↓px_sw, ↓pn_SW, ↓px_ma, ↓reduceIte, Nat.reduceEqDiff, Nat.reduceAdd, Nat.reduceSub, ↓Option.toList_some, ↓Option.toList_none, ↓List.cons_append, ↓List.nil_append, ↓kI_s, ↓kJ_s, ↓kN_s, ↓kO_s, ↓kZ_s, ↓kE_s, ↓an_rfl, ↓bt1 n00, ↓bt2 n00, ↓bf1 n10, ↓bf2 n10, ↓an_sz0, ↓an_sz1, ↓an_sz2, ↓an_sz3, ↓an_sz4, ↓an_ri, ↓an_rb0, ↓an_rb1, ↓an_b0, ↓an_b1, true_and, ↓ai_0s, ↓al_0s, ↓av_0s, ↓aq_0s, ↓ai_1s, ↓al_1s, ↓av_1s, ↓aq_1s, ↓ai_2s, ↓al_2s, ↓av_2s, ↓aq_2s, ↓ai_3s, ↓al_3s, ↓av_3s, ↓aq_3s, ↓ai_4s, ↓al_4s, ↓av_4s, ↓aq_4s, ↓ai_5s, ↓al_5s, ↓av_5s, ↓aq_5s, ↓ai_6s, ↓al_6s, ↓av_6s, ↓aq_6s, ↓ai_7s, ↓al_7s, ↓av_7s, ↓aq_7s, ↓an_l4, ↓bk_8002]
  rw [oW_some] at hs
  exact hs
set_option maxHeartbeats 4000000 in
set_option maxRecDepth 100000 in
theorem mf_8002 {tab : px_T} (hn : px_nd tab) {h : Nat} (hh : 27 ≤ h) : px_Ok tab pn_i8002 h (Sg_8002 (f_8002 tab)) := by
  refine px_mth hn (by decide +kernel) (fun av σ k hS => ?_) (fun C hT hC av σ k hS => ?_)
  · obtain ⟨x0, av0, e0, h0⟩ := av_0p hS
    obtain ⟨x1, av1, e1, h1⟩ := av_1p h0
    obtain ⟨x2, av2, e2, h2⟩ := ai_2p h1
    obtain ⟨ez, hs⟩ := h2
    subst ez
    subst e2
    subst e1
    subst e0
    exact Nat.le_of_ble_eq_true rfl
  · obtain ⟨x0, av0, e0, h0⟩ := av_0p hS
    obtain ⟨x1, av1, e1, h1⟩ := av_1p h0
    obtain ⟨x2, av2, e2, h2⟩ := ai_2p h1
    obtain ⟨ez, hs⟩ := h2
    subst ez
    subst e2
    subst e1
    subst e0
    subst hT
    show px_W C k 0 [some (.inr (.inr (some x0))), some (.inr (.inr (some x1))), some (.inl x2), none] [] σ
    refine px_runH (h - 1) ck_8002 [(11016, Sg_11016 (f_11016 (px_tb C))), (11031, Sg_11031 (f_11031 (px_tb C)))] [(38, kp_8002_38 (fun τ => oW (f_8002_38 (px_tb C) τ) (fun q => k (some (.inl q.1)) q.2))), (40, kp_8002_40 (fun y0 y2 τ => oW (f_8002_40 (px_tb C) τ y0 y2) (fun q => k (some (.inl q.1)) q.2)))] 80 4 (some .int) rfl rfl hC (px_sp1 (mf_11016 hn (by omega)) (px_sp1 (mf_11031 hn (by omega)) px_nosp)) (by omega) (px_cut1 (kq_8002_38 (fun τ hq => by exact rl_8002_38 hn (by omega) hC  hq)) (px_cut1 (kq_8002_40 (fun y0 y2 τ hq => by exact rl_8002_40 hn (by omega) hC  hq)) px_nocut)) (fun G Jf hG hJf => ?_)
    unfold f_8002 at hs
    obtain ⟨hc0, hs⟩ := oW_gx hs
    by_cases hc1 : x2 = nI 0
    · replace hs := bW_t hs hc1
      simp only [↓hG, ↓hJf, ↓px_vc, ↓px_ex, ↓px_jp, ↓px_gi, ↓px_gl, ↓px_gr, ↓px_s1, ↓px_s2, ↓px_nl, ↓px_i1, ↓px_l1, ↓r1_s, ↓px_q1, ↓px_i2, ↓px_l2, ↓px_il, ↓px_d0, ↓px_d1, ↓px_d2, ↓px_pop, ↓px_sp, ↓px_rd, ↓px_rf, ↓pn_xf, ↓px_pt, ↓px_sw, ↓pn_SW, ↓px_ma, ↓reduceIte, Nat.reduceEqDiff, Nat.reduceAdd, Nat.reduceSub, ↓Option.toList_some, ↓Option.toList_none, ↓List.cons_append, ↓List.nil_append, ↓kI_s, ↓kJ_s, ↓kN_s, ↓kO_s, ↓kZ_s, ↓kE_s, ↓an_rfl, ↓bt1 n00, ↓bt2 n00, ↓bf1 n10, ↓bf2 n10, ↓an_sz0, ↓an_sz1, ↓an_sz2, ↓an_sz3, ↓an_sz4, ↓an_ri, ↓an_rb0, ↓an_rb1, ↓an_b0, ↓an_b1, true_and, ↓ai_0s, ↓al_0s, ↓av_0s, ↓aq_0s, ↓ai_1s, ↓al_1s, ↓av_1s, ↓aq_1s, ↓ai_2s, ↓al_2s, ↓av_2s, ↓aq_2s, ↓ai_3s, ↓al_3s, ↓av_3s, ↓aq_3s, ↓ai_4s, ↓al_4s, ↓av_4s, ↓aq_4s, ↓ai_5s, ↓al_5s, ↓av_5s, ↓aq_5s, ↓ai_6s, ↓al_6s, ↓av_6s, ↓aq_6s, ↓ai_7s, ↓al_7s, ↓av_7s, ↓aq_7s, ↓an_l4, ↓bk_8002, ↓Sg_11016, ↓Sg_11031, ↓kp_8002_38, ↓kp_8002_40, ↓an_t hc0, ↓an_rv hc0, ↓bt1 hc1, ↓bt2 hc1]
      rw [oW_some] at hs
      exact hs
    · replace hs := bW_f hs hc1
      obtain ⟨n1, hc2, hs⟩ := oW_bx hs
      obtain ⟨hc3, hs⟩ := oW_gx hs
      obtain ⟨r2, hc4, hs⟩ := oW_bx hs
      by_cases hc5 : (r2 &&& x2) = nI 0
      · replace hs := bW_t hs hc5
        simp only [↓hG, ↓hJf, ↓px_vc, ↓px_ex, ↓px_jp, ↓px_gi, ↓px_gl, ↓px_gr, ↓px_s1, ↓px_s2, ↓px_nl, ↓px_i1, ↓px_l1, ↓r1_s, ↓px_q1, ↓px_i2, ↓px_l2, ↓px_il, ↓px_d0, ↓px_d1, ↓px_d2, ↓px_pop, ↓px_sp, ↓px_rd, ↓px_rf, ↓pn_xf, ↓px_pt, ↓px_sw, ↓pn_SW, ↓px_ma, ↓reduceIte, Nat.reduceEqDiff, Nat.reduceAdd, Nat.reduceSub, ↓Option.toList_some, ↓Option.toList_none, ↓List.cons_append, ↓List.nil_append, ↓kI_s, ↓kJ_s, ↓kN_s, ↓kO_s, ↓kZ_s, ↓kE_s, ↓an_rfl, ↓bt1 n00, ↓bt2 n00, ↓bf1 n10, ↓bf2 n10, ↓an_sz0, ↓an_sz1, ↓an_sz2, ↓an_sz3, ↓an_sz4, ↓an_ri, ↓an_rb0, ↓an_rb1, ↓an_b0, ↓an_b1, true_and, ↓ai_0s, ↓al_0s, ↓av_0s, ↓aq_0s, ↓ai_1s, ↓al_1s, ↓av_1s, ↓aq_1s, ↓ai_2s, ↓al_2s, ↓av_2s, ↓aq_2s, ↓ai_3s, ↓al_3s, ↓av_3s, ↓aq_3s, ↓ai_4s, ↓al_4s, ↓av_4s, ↓aq_4s, ↓ai_5s, ↓al_5s, ↓av_5s, ↓aq_5s, ↓ai_6s, ↓al_6s, ↓av_6s, ↓aq_6s, ↓ai_7s, ↓al_7s, ↓av_7s, ↓aq_7s, ↓an_l4, ↓bk_8002, ↓Sg_11016, ↓Sg_11031, ↓kp_8002_38, ↓kp_8002_40, ↓an_t hc0, ↓an_rv hc0, ↓bf1 hc1, ↓bf2 hc1, ↓r1_e hc2, ↓av_0e hc2, ↓av_1e hc2, ↓av_2e hc2, ↓av_3e hc2, ↓an_t hc3, ↓an_rv hc3, ↓an_rvo hc2 hc3, ↓oW_e hc4, ↓bt1 hc5, ↓bt2 hc5]
        rw [oW_some] at hs
        exact hs
      · replace hs := bW_f hs hc5
        obtain ⟨r3, hc6, hs⟩ := oW_bx hs
        by_cases hc7 : r3 = (-1)
        · replace hs := oW_t hs hc7
          simp only [↓hG, ↓hJf, ↓px_vc, ↓px_ex, ↓px_jp, ↓px_gi, ↓px_gl, ↓px_gr, ↓px_s1, ↓px_s2, ↓px_nl, ↓px_i1, ↓px_l1, ↓r1_s, ↓px_q1, ↓px_i2, ↓px_l2, ↓px_il, ↓px_d0, ↓px_d1, ↓px_d2, ↓px_pop, ↓px_sp, ↓px_rd, ↓px_rf, ↓pn_xf, ↓px_pt, ↓px_sw, ↓pn_SW, ↓px_ma, ↓reduceIte, Nat.reduceEqDiff, Nat.reduceAdd, Nat.reduceSub, ↓Option.toList_some, ↓Option.toList_none, ↓List.cons_append, ↓List.nil_append, ↓kI_s, ↓kJ_s, ↓kN_s, ↓kO_s, ↓kZ_s, ↓kE_s, ↓an_rfl, ↓bt1 n00, ↓bt2 n00, ↓bf1 n10, ↓bf2 n10, ↓an_sz0, ↓an_sz1, ↓an_sz2, ↓an_sz3, ↓an_sz4, ↓an_ri, ↓an_rb0, ↓an_rb1, ↓an_b0, ↓an_b1, true_and, ↓ai_0s, ↓al_0s, ↓av_0s, ↓aq_0s, ↓ai_1s, ↓al_1s, ↓av_1s, ↓aq_1s, ↓ai_2s, ↓al_2s, ↓av_2s, ↓aq_2s, ↓ai_3s, ↓al_3s, ↓av_3s, ↓aq_3s, ↓ai_4s, ↓al_4s, ↓av_4s, ↓aq_4s, ↓ai_5s, ↓al_5s, ↓av_5s, ↓aq_5s, ↓ai_6s, ↓al_6s, ↓av_6s, ↓aq_6s, ↓ai_7s, ↓al_7s, ↓av_7s, ↓aq_7s, ↓an_l4, ↓bk_8002, ↓Sg_11016, ↓Sg_11031, ↓kp_8002_38, ↓kp_8002_40, ↓an_t hc0, ↓an_rv hc0, ↓bf1 hc1, ↓bf2 hc1, ↓r1_e hc2, ↓av_0e hc2, ↓av_1e hc2, ↓av_2e hc2, ↓av_3e hc2, ↓an_t hc3, ↓an_rv hc3, ↓an_rvo hc2 hc3, ↓oW_e hc4, ↓bf1 hc5, ↓bf2 hc5, ↓oW_e hc6, ↓bt1 hc7, ↓bt2 hc7]
          exact hs
        · replace hs := oW_f hs hc7
          simp only [↓hG, ↓hJf, ↓px_vc, ↓px_ex, ↓px_jp, ↓px_gi, ↓px_gl, ↓px_gr, ↓px_s1, ↓px_s2, ↓px_nl, ↓px_i1, ↓px_l1, ↓r1_s, ↓px_q1, ↓px_i2, ↓px_l2, ↓px_il, ↓px_d0, ↓px_d1, ↓px_d2, ↓px_pop, ↓px_sp, ↓px_rd, ↓px_rf, ↓pn_xf, ↓px_pt, ↓px_sw, ↓pn_SW, ↓px_ma, ↓reduceIte, Nat.reduceEqDiff, Nat.reduceAdd, Nat.reduceSub, ↓Option.toList_some, ↓Option.toList_none, ↓List.cons_append, ↓List.nil_append, ↓kI_s, ↓kJ_s, ↓kN_s, ↓kO_s, ↓kZ_s, ↓kE_s, ↓an_rfl, ↓bt1 n00, ↓bt2 n00, ↓bf1 n10, ↓bf2 n10, ↓an_sz0, ↓an_sz1, ↓an_sz2, ↓an_sz3, ↓an_sz4, ↓an_ri, ↓an_rb0, ↓an_rb1, ↓an_b0, ↓an_b1, true_and, ↓ai_0s, ↓al_0s, ↓av_0s, ↓aq_0s, ↓ai_1s, ↓al_1s, ↓av_1s, ↓aq_1s, ↓ai_2s, ↓al_2s, ↓av_2s, ↓aq_2s, ↓ai_3s, ↓al_3s, ↓av_3s, ↓aq_3s, ↓ai_4s, ↓al_4s, ↓av_4s, ↓aq_4s, ↓ai_5s, ↓al_5s, ↓av_5s, ↓aq_5s, ↓ai_6s, ↓al_6s, ↓av_6s, ↓aq_6s, ↓ai_7s, ↓al_7s, ↓av_7s, ↓aq_7s, ↓an_l4, ↓bk_8002, ↓Sg_11016, ↓Sg_11031, ↓kp_8002_38, ↓kp_8002_40, ↓an_t hc0, ↓an_rv hc0, ↓bf1 hc1, ↓bf2 hc1, ↓r1_e hc2, ↓av_0e hc2, ↓av_1e hc2, ↓av_2e hc2, ↓av_3e hc2, ↓an_t hc3, ↓an_rv hc3, ↓an_rvo hc2 hc3, ↓oW_e hc4, ↓bf1 hc5, ↓bf2 hc5, ↓oW_e hc6, ↓bf1 hc7, ↓bf2 hc7]
          exact hs
def Sg_11015 (g : px_M → Nat → Option (Int32)) : px_S := fun av σ k => av_0 av (fun x0 av => av = [] ∧ oW (g σ x0) (fun r => k (some (.inl r)) σ))
/-- NoThree$Town.doors()I -/
noncomputable def f_11015_24 (tab : px_T) (σ : px_M) (x0 : Nat) (x1 : Int32) (x2 : Int32) : Option ((Int32 × Int32) ⊕ (Int32)) := some (.inl ((x1, (x2 + (nI 1)))))
noncomputable def F_11015_4 (tab : px_T) (σ : px_M) (x0 : Nat) (x1 : Int32) (x2 : Int32) : Option ((Int32 × Int32) ⊕ (Int32)) := gd (px_obj (px_lay tab x0) 11) (if ((σ).1 x0 0) ≤ x2 then (gd (¬ (nI 2) = nI 0) (some (.inr ((x1 / (nI 2)))))) else ((((σ).2.2 x0 1)).bind fun n1 => oA (px_lay tab n1) fun t2 l3 => gd (t2 = 0 ∨ t2 = 11) (gd (vp_in x2 l3) ((f_21000 tab σ ((px_av t2 σ n1 (x2).toNatClampNeg))).bind fun r4 => f_11015_24 tab σ x0 ((x1 + r4)) x2))))
noncomputable def f_11015_4 (tab : px_T) (σ : px_M) (x0 : Nat) (x1 : Int32) (x2 : Int32) : Option (Int32) := lpO (fun s : Int32 × Int32 => F_11015_4 tab σ x0 s.1 s.2) (x1, x2)
theorem f_11015_4_eq (tab : px_T) (σ : px_M) (x0 : Nat) (x1 : Int32) (x2 : Int32) : f_11015_4 tab σ x0 x1 x2 = (F_11015_4 tab σ x0 x1 x2).bind (Sum.elim (fun s => f_11015_4 tab σ x0 s.1 s.2) some) := lpO_eq _ _
noncomputable def f_11015 (tab : px_T) (σ : px_M) (x0 : Nat) : Option (Int32) := f_11015_4 tab σ x0 ((nI 0)) ((nI 0))
def kp_11015_24 (Q : Nat → Int32 → Int32 → px_M → Prop) : px_P := fun ls st τ => st = [] ∧ kN ls (fun x0 ls => kI ls (fun x1 ls => kI ls (fun x2 ls => kE ls (Q x0 x1 x2 τ))))
theorem kq_11015_24 {C : px_C} {k : Option px_V → px_M → Prop} {Q : Nat → Int32 → Int32 → px_M → Prop} (H : ∀ (x0 : Nat) (x1 : Int32) (x2 : Int32) (τ : px_M), Q x0 x1 x2 τ → px_W C k 24 [some (.inr (.inr (some x0))), some (.inl x1), some (.inl x2)] [] τ) : ∀ ls st τ, kp_11015_24 Q ls st τ → px_W C k 24 ls st τ := by
  intro ls st τ hz
  obtain ⟨ez, h0⟩ := hz
  obtain ⟨x0, l0, e0, h1⟩ := kN_sp h0
  obtain ⟨x1, l1, e1, h2⟩ := kI_sp h1
  obtain ⟨x2, l2, e2, h3⟩ := kI_sp h2
  obtain ⟨ey, hy⟩ := kE_sp h3
  subst ez
  subst ey
  subst e2
  subst e1
  subst e0
  exact H x0 x1 x2 τ hy
def kp_11015_4 (Q : Nat → Int32 → Int32 → px_M → Prop) : px_P := fun ls st τ => st = [] ∧ kN ls (fun x0 ls => kI ls (fun x1 ls => kI ls (fun x2 ls => kE ls (Q x0 x1 x2 τ))))
theorem kq_11015_4 {C : px_C} {k : Option px_V → px_M → Prop} {Q : Nat → Int32 → Int32 → px_M → Prop} (H : ∀ (x0 : Nat) (x1 : Int32) (x2 : Int32) (τ : px_M), Q x0 x1 x2 τ → px_W C k 4 [some (.inr (.inr (some x0))), some (.inl x1), some (.inl x2)] [] τ) : ∀ ls st τ, kp_11015_4 Q ls st τ → px_W C k 4 ls st τ := by
  intro ls st τ hz
  obtain ⟨ez, h0⟩ := hz
  obtain ⟨x0, l0, e0, h1⟩ := kN_sp h0
  obtain ⟨x1, l1, e1, h2⟩ := kI_sp h1
  obtain ⟨x2, l2, e2, h3⟩ := kI_sp h2
  obtain ⟨ey, hy⟩ := kE_sp h3
  subst ez
  subst ey
  subst e2
  subst e1
  subst e0
  exact H x0 x1 x2 τ hy
set_option maxHeartbeats 4000000 in
set_option maxRecDepth 100000 in
theorem rl_11015_24 {C : px_C} (hn : px_nd (px_tb C)) {h : Nat} (hh : 2 ≤ h) (hC : px_ok C pn_i11015 h) {k : Option px_V → px_M → Prop} {x0 : Nat} {x1 : Int32} {x2 : Int32} {σ : px_M} (hs : oW (f_11015_24 (px_tb C) σ x0 x1 x2) (Sum.elim (fun s : Int32 × Int32 => px_W C k 4 [some (.inr (.inr (some x0))), some (.inl s.1), some (.inl s.2)] [] σ) (fun r => k (some (.inl r)) σ))) : px_W C k 24 [some (.inr (.inr (some x0))), some (.inl x1), some (.inl x2)] [] σ := by
  refine px_runH (h - 1) ck_11015 [] [(4, kp_11015_4 (fun y0 y1 y2 τ => y0 = x0 ∧ τ = σ ∧ (fun s : Int32 × Int32 => px_W C k 4 [some (.inr (.inr (some x0))), some (.inl s.1), some (.inl s.2)] [] σ) (y1, y2)))] 80 3 (some .int) rfl rfl hC px_nosp (by omega) (px_cut1 (kq_11015_4 (fun y0 y1 y2 τ hq => by obtain ⟨rfl, rfl, hq⟩ := hq; exact hq)) px_nocut) (fun G Jf hG hJf => ?_)
  unfold f_11015_24 at hs
  simp only [↓hG, ↓hJf, ↓px_vc, ↓px_ex, ↓px_jp, ↓px_gi, ↓px_gl, ↓px_gr, ↓px_s1, ↓px_s2, ↓px_nl, ↓px_i1, ↓px_l1, ↓r1_s, ↓px_q1, ↓px_i2, ↓px_l2, ↓px_il, ↓px_d0, ↓px_d1, ↓px_d2, ↓px_pop, ↓px_sp, ↓px_rd, ↓px_rf, ↓pn_xf, ↓px_pt, ↓px_sw, ↓pn_SW, ↓px_ma, ↓reduceIte, Nat.reduceEqDiff, Nat.reduceAdd, Nat.reduceSub, ↓Option.toList_some, ↓Option.toList_none, ↓List.cons_append, ↓List.nil_append, ↓kI_s, ↓kJ_s, ↓kN_s, ↓kO_s, ↓kZ_s, ↓kE_s, ↓an_rfl, ↓bt1 n00, ↓bt2 n00, ↓bf1 n10, ↓bf2 n10, ↓an_sz0, ↓an_sz1, ↓an_sz2, ↓an_sz3, ↓an_sz4, ↓an_ri, ↓an_rb0, ↓an_rb1, ↓an_b0, ↓an_b1, true_and, ↓ai_0s, ↓al_0s, ↓av_0s, ↓aq_0s, ↓ai_1s, ↓al_1s, ↓av_1s, ↓aq_1s, ↓ai_2s, ↓al_2s, ↓av_2s, ↓aq_2s, ↓ai_3s, ↓al_3s, ↓av_3s, ↓aq_3s, ↓ai_4s, ↓al_4s, ↓av_4s, ↓aq_4s, ↓ai_5s, ↓al_5s, ↓av_5s, ↓aq_5s, ↓ai_6s, ↓al_6s, ↓av_6s, ↓aq_6s, ↓ai_7s, ↓al_7s, ↓av_7s, ↓aq_7s, ↓an_l3, ↓bk_11015, ↓kp_11015_4]
  rw [oW_some] at hs
  exact hs
set_option maxHeartbeats 4000000 in
set_option maxRecDepth 100000 in
theorem rl_11015_4 {C : px_C} (hn : px_nd (px_tb C)) {h : Nat} (hh : 2 ≤ h) (hC : px_ok C pn_i11015 h) {k : Option px_V → px_M → Prop} {x0 : Nat} {σ : px_M} : ∀ s : Int32 × Int32, oW (f_11015_4 (px_tb C) σ x0 s.1 s.2) (fun r => k (some (.inl r)) σ) → (fun s : Int32 × Int32 => px_W C k 4 [some (.inr (.inr (some x0))), some (.inl s.1), some (.inl s.2)] [] σ) s := by
  intro s h0
  refine lpO_sound (P := (fun s : Int32 × Int32 => px_W C k 4 [some (.inr (.inr (some x0))), some (.inl s.1), some (.inl s.2)] [] σ)) (fun s hs => ?_) h0
  obtain ⟨x1, x2⟩ := s
  refine px_runH (h - 1) ck_11015 [(21000, Sg_21000 (f_21000 (px_tb C)))] [(24, kp_11015_24 (fun y0 y1 y2 τ => y0 = x0 ∧ τ = σ ∧ oW (f_11015_24 (px_tb C) τ y0 y1 y2) (Sum.elim (fun s : Int32 × Int32 => px_W C k 4 [some (.inr (.inr (some x0))), some (.inl s.1), some (.inl s.2)] [] σ) (fun r => k (some (.inl r)) σ))))] 80 3 (some .int) rfl rfl hC (px_sp1 (mf_21000 hn (by omega)) px_nosp) (by omega) (px_cut1 (kq_11015_24 (fun y0 y1 y2 τ hq => by obtain ⟨rfl, rfl, hq⟩ := hq; exact rl_11015_24 hn (by omega) hC  hq)) px_nocut) (fun G Jf hG hJf => ?_)
  replace hs : oW (F_11015_4 (px_tb C) σ x0 x1 x2) _ := hs
  unfold F_11015_4 at hs
  obtain ⟨hc0, hs⟩ := oW_gx hs
  by_cases hc1 : ((σ).1 x0 0) ≤ x2
  · replace hs := oW_t hs hc1
    obtain ⟨hc2, hs⟩ := oW_gx hs
    simp only [↓hG, ↓hJf, ↓px_vc, ↓px_ex, ↓px_jp, ↓px_gi, ↓px_gl, ↓px_gr, ↓px_s1, ↓px_s2, ↓px_nl, ↓px_i1, ↓px_l1, ↓r1_s, ↓px_q1, ↓px_i2, ↓px_l2, ↓px_il, ↓px_d0, ↓px_d1, ↓px_d2, ↓px_pop, ↓px_sp, ↓px_rd, ↓px_rf, ↓pn_xf, ↓px_pt, ↓px_sw, ↓pn_SW, ↓px_ma, ↓reduceIte, Nat.reduceEqDiff, Nat.reduceAdd, Nat.reduceSub, ↓Option.toList_some, ↓Option.toList_none, ↓List.cons_append, ↓List.nil_append, ↓kI_s, ↓kJ_s, ↓kN_s, ↓kO_s, ↓kZ_s, ↓kE_s, ↓an_rfl, ↓bt1 n00, ↓bt2 n00, ↓bf1 n10, ↓bf2 n10, ↓an_sz0, ↓an_sz1, ↓an_sz2, ↓an_sz3, ↓an_sz4, ↓an_ri, ↓an_rb0, ↓an_rb1, ↓an_b0, ↓an_b1, true_and, ↓ai_0s, ↓al_0s, ↓av_0s, ↓aq_0s, ↓ai_1s, ↓al_1s, ↓av_1s, ↓aq_1s, ↓ai_2s, ↓al_2s, ↓av_2s, ↓aq_2s, ↓ai_3s, ↓al_3s, ↓av_3s, ↓aq_3s, ↓ai_4s, ↓al_4s, ↓av_4s, ↓aq_4s, ↓ai_5s, ↓al_5s, ↓av_5s, ↓aq_5s, ↓ai_6s, ↓al_6s, ↓av_6s, ↓aq_6s, ↓ai_7s, ↓al_7s, ↓av_7s, ↓aq_7s, ↓an_l3, ↓bk_11015, ↓Sg_21000, ↓kp_11015_24, ↓an_t hc0, ↓an_rv hc0, ↓bt1 hc1, ↓bt2 hc1, ↓an_t hc2]
    rw [oW_some] at hs
    exact hs
  · replace hs := oW_f hs hc1
    obtain ⟨n1, hc2, hs⟩ := oW_bx hs
    obtain ⟨t2, l3, hc3, hs⟩ := oW_ax hs
    obtain ⟨hc4, hs⟩ := oW_gx hs
    obtain ⟨hc5, hs⟩ := oW_gx hs
    obtain ⟨r4, hc6, hs⟩ := oW_bx hs
    simp only [↓hG, ↓hJf, ↓px_vc, ↓px_ex, ↓px_jp, ↓px_gi, ↓px_gl, ↓px_gr, ↓px_s1, ↓px_s2, ↓px_nl, ↓px_i1, ↓px_l1, ↓r1_s, ↓px_q1, ↓px_i2, ↓px_l2, ↓px_il, ↓px_d0, ↓px_d1, ↓px_d2, ↓px_pop, ↓px_sp, ↓px_rd, ↓px_rf, ↓pn_xf, ↓px_pt, ↓px_sw, ↓pn_SW, ↓px_ma, ↓reduceIte, Nat.reduceEqDiff, Nat.reduceAdd, Nat.reduceSub, ↓Option.toList_some, ↓Option.toList_none, ↓List.cons_append, ↓List.nil_append, ↓kI_s, ↓kJ_s, ↓kN_s, ↓kO_s, ↓kZ_s, ↓kE_s, ↓an_rfl, ↓bt1 n00, ↓bt2 n00, ↓bf1 n10, ↓bf2 n10, ↓an_sz0, ↓an_sz1, ↓an_sz2, ↓an_sz3, ↓an_sz4, ↓an_ri, ↓an_rb0, ↓an_rb1, ↓an_b0, ↓an_b1, true_and, ↓ai_0s, ↓al_0s, ↓av_0s, ↓aq_0s, ↓ai_1s, ↓al_1s, ↓av_1s, ↓aq_1s, ↓ai_2s, ↓al_2s, ↓av_2s, ↓aq_2s, ↓ai_3s, ↓al_3s, ↓av_3s, ↓aq_3s, ↓ai_4s, ↓al_4s, ↓av_4s, ↓aq_4s, ↓ai_5s, ↓al_5s, ↓av_5s, ↓aq_5s, ↓ai_6s, ↓al_6s, ↓av_6s, ↓aq_6s, ↓ai_7s, ↓al_7s, ↓av_7s, ↓aq_7s, ↓an_l3, ↓bk_11015, ↓Sg_21000, ↓kp_11015_24, ↓an_t hc0, ↓an_rv hc0, ↓bf1 hc1, ↓bf2 hc1, ↓r1_e hc2, ↓av_0e hc2, ↓av_1e hc2, ↓av_2e hc2, ↓av_3e hc2, ↓ar_e hc3, ↓an_t hc4, ↓an_t hc5, ↓oW_e hc6]
    exact hs
set_option maxHeartbeats 4000000 in
set_option maxRecDepth 100000 in
theorem mf_11015 {tab : px_T} (hn : px_nd tab) {h : Nat} (hh : 2 ≤ h) : px_Ok tab pn_i11015 h (Sg_11015 (f_11015 tab)) := by
  refine px_mth hn (by decide +kernel) (fun av σ k hS => ?_) (fun C hT hC av σ k hS => ?_)
  · obtain ⟨x0, av0, e0, h0⟩ := av_0p hS
    obtain ⟨ez, hs⟩ := h0
    subst ez
    subst e0
    exact Nat.le_of_ble_eq_true rfl
  · obtain ⟨x0, av0, e0, h0⟩ := av_0p hS
    obtain ⟨ez, hs⟩ := h0
    subst ez
    subst e0
    subst hT
    show px_W C k 0 [some (.inr (.inr (some x0))), none, none] [] σ
    refine px_runH (h - 1) ck_11015 [] [(4, kp_11015_4 (fun y0 y1 y2 τ => τ = σ ∧ oW (f_11015_4 (px_tb C) τ y0 y1 y2) (fun r => k (some (.inl r)) σ)))] 80 3 (some .int) rfl rfl hC px_nosp (by omega) (px_cut1 (kq_11015_4 (fun y0 y1 y2 τ hq => by obtain ⟨rfl, hq⟩ := hq; exact rl_11015_4 hn (by omega) hC (y1, y2) hq)) px_nocut) (fun G Jf hG hJf => ?_)
    unfold f_11015 at hs
    simp only [↓hG, ↓hJf, ↓px_vc, ↓px_ex, ↓px_jp, ↓px_gi, ↓px_gl, ↓px_gr, ↓px_s1, ↓px_s2, ↓px_nl, ↓px_i1, ↓px_l1, ↓r1_s, ↓px_q1, ↓px_i2, ↓px_l2, ↓px_il, ↓px_d0, ↓px_d1, ↓px_d2, ↓px_pop, ↓px_sp, ↓px_rd, ↓px_rf, ↓pn_xf, ↓px_pt, ↓px_sw, ↓pn_SW, ↓px_ma, ↓reduceIte, Nat.reduceEqDiff, Nat.reduceAdd, Nat.reduceSub, ↓Option.toList_some, ↓Option.toList_none, ↓List.cons_append, ↓List.nil_append, ↓kI_s, ↓kJ_s, ↓kN_s, ↓kO_s, ↓kZ_s, ↓kE_s, ↓an_rfl, ↓bt1 n00, ↓bt2 n00, ↓bf1 n10, ↓bf2 n10, ↓an_sz0, ↓an_sz1, ↓an_sz2, ↓an_sz3, ↓an_sz4, ↓an_ri, ↓an_rb0, ↓an_rb1, ↓an_b0, ↓an_b1, true_and, ↓ai_0s, ↓al_0s, ↓av_0s, ↓aq_0s, ↓ai_1s, ↓al_1s, ↓av_1s, ↓aq_1s, ↓ai_2s, ↓al_2s, ↓av_2s, ↓aq_2s, ↓ai_3s, ↓al_3s, ↓av_3s, ↓aq_3s, ↓ai_4s, ↓al_4s, ↓av_4s, ↓aq_4s, ↓ai_5s, ↓al_5s, ↓av_5s, ↓aq_5s, ↓ai_6s, ↓al_6s, ↓av_6s, ↓aq_6s, ↓ai_7s, ↓al_7s, ↓av_7s, ↓aq_7s, ↓an_l3, ↓bk_11015, ↓kp_11015_4]
    exact hs
