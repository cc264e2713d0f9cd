/-! shallow functions, printed by wip/whole/decomp.py -/
/-- NoThree$Painter.waysOf(III)J -/
noncomputable def f_8009_203 (tab : px_T) (g8009 : px_M → Nat → Int32 → Int32 → Int32 → Option (Int64 × px_M)) (σ : px_M) (x0 : Nat) (x1 : Int32) (x3 : Int32) (x4 : Int32) (x5 : Int64) (x7 : Int64) (x9 : Int32) : Option ((Int32 × Int64 × Int64 × Int32 × px_M) ⊕ (Int64 × px_M)) := some (.inl ((x4, x5, x7, (x9 + (nI 1)), σ)))
noncomputable def f_8009_165 (tab : px_T) (g8009 : px_M → Nat → Int32 → Int32 → Int32 → Option (Int64 × px_M)) (σ : px_M) (x0 : Nat) (x1 : Int32) (x3 : Int32) (x4 : Int32) (x5 : Int64) (x7 : Int64) (x9 : Int32) (x13 : Int32) (x14 : Int32) : Option ((Int32 × Int64 × Int64 × Int32 × px_M) ⊕ (Int64 × px_M)) := gd (px_obj (px_lay tab x0) 8) ((f_8010 tab σ x0 x1 x13).bind fun r1 => gd (px_obj (px_lay tab x0) 8) ((f_8011 tab σ x0 x1 x13 ((r1 ||| ((nI 1) <<< (x14 &&& 31))))).bind fun q2 => gd (px_obj (px_lay tab x0) 8) ((f_8010 tab q2 x0 x1 x14).bind fun r3 => gd (px_obj (px_lay tab x0) 8) ((f_8011 tab q2 x0 x1 x14 ((r3 ||| ((nI 1) <<< (x13 &&& 31))))).bind fun q4 => f_8009_203 tab g8009 q4 x0 x1 x3 x4 x5 x7 x9))))
noncomputable def f_8009_109 (tab : px_T) (g8009 : px_M → Nat → Int32 → Int32 → Int32 → Option (Int64 × px_M)) (σ : px_M) (x0 : Nat) (x1 : Int32) (x3 : Int32) (x4 : Int32) (x5 : Int64) (x7 : Int64) (x9 : Int32) (x12 : Int32) : Option ((Int32 × Int64 × Int64 × Int32 × px_M) ⊕ (Int64 × px_M)) := gd (¬ (nI 11) = nI 0) (gd (¬ (nI 11) = nI 0) (if (nI 12) ≤ (x1 + (nI 1)) then (f_8009_165 tab g8009 σ x0 x1 x3 x4 x5 x7 x9 ((x12 / (nI 11))) ((x12 - x12 / (nI 11) * (nI 11)))) else (gd (px_obj (px_lay tab x0) 8) ((f_8014 tab σ x0 x1 ((x12 / (nI 11))) ((x12 - x12 / (nI 11) * (nI 11)))).bind fun q1 => gd (px_obj (px_lay tab x0) 8) ((g8009 q1 x0 ((x1 + (nI 1))) ((x4 &&& (((nI 1) <<< ((x12 - x12 / (nI 11) * (nI 11)) &&& 31)) ^^^ (-1)))) x3).bind fun q2 => f_8009_165 tab g8009 q2.2 x0 x1 x3 x4 ((x5 + (x7 * q2.1))) x7 x9 ((x12 / (nI 11))) ((x12 - x12 / (nI 11) * (nI 11))))))))
noncomputable def f_8009_72 (tab : px_T) (g8009 : px_M → Nat → Int32 → Int32 → Int32 → Option (Int64 × px_M)) (σ : px_M) (x0 : Nat) (x1 : Int32) (x3 : Int32) (x4 : Int32) (x5 : Int64) (x7 : Int64) (x9 : Int32) (x10 : Int32) (x11 : Int32) : Option ((Int32 × Int64 × Int64 × Int32 × px_M) ⊕ (Int64 × px_M)) := (f_21000 tab σ x11).bind fun r1 => if (lN 0) < (x7 * ((x3 - r1)).toInt64) then (f_8009_203 tab g8009 σ x0 x1 x3 ((x4 &&& (((nI 1) <<< (x10 &&& 31)) ^^^ (-1)))) x5 ((x7 * ((x3 - r1)).toInt64)) x9) else (some (.inr ((x5, σ))))
noncomputable def F_8009_24 (tab : px_T) (g8009 : px_M → Nat → Int32 → Int32 → Int32 → Option (Int64 × px_M)) (x0 : Nat) (x1 : Int32) (x3 : Int32) (x4 : Int32) (x5 : Int64) (x7 : Int64) (x9 : Int32) (σ : px_M) : Option ((Int32 × Int64 × Int64 × Int32 × px_M) ⊕ (Int64 × px_M)) := if (nI 100) ≤ x9 then (bn (x4 = nI 0) (some (.inr ((x5, σ)))) (some (.inr (((x5 + x7), σ))))) else (if x4 = nI 0 then (bn (x4 = nI 0) (some (.inr ((x5, σ)))) (some (.inr (((x5 + x7), σ))))) else (gd (px_obj (px_lay tab x0) 8) ((f_8012 tab σ x0 x1 x4).bind fun r1 => gd (px_obj (px_lay tab x0) 8) ((f_8010 tab σ x0 x1 r1).bind fun r2 => gd (px_obj (px_lay tab x0) 8) ((f_8013 tab σ x0 x1 ((r2 &&& x4))).bind fun r3 => bn (r3 = (-1)) (f_8009_109 tab g8009 σ x0 x1 x3 x4 x5 x7 x9 r3) (f_8009_72 tab g8009 σ x0 x1 x3 x4 x5 x7 x9 r1 ((r2 &&& x4))))))))
noncomputable def f_8009_24 (tab : px_T) (g8009 : px_M → Nat → Int32 → Int32 → Int32 → Option (Int64 × px_M)) (x0 : Nat) (x1 : Int32) (x3 : Int32) (x4 : Int32) (x5 : Int64) (x7 : Int64) (x9 : Int32) (σ : px_M) : Option (Int64 × px_M) := lpO (fun s : Int32 × Int64 × Int64 × Int32 × px_M => F_8009_24 tab g8009 x0 x1 x3 s.1 s.2.1 s.2.2.1 s.2.2.2.1 s.2.2.2.2) (x4, x5, x7, x9, σ)
theorem f_8009_24_eq (tab : px_T) (g8009 : px_M → Nat → Int32 → Int32 → Int32 → Option (Int64 × px_M)) (x0 : Nat) (x1 : Int32) (x3 : Int32) (x4 : Int32) (x5 : Int64) (x7 : Int64) (x9 : Int32) (σ : px_M) : f_8009_24 tab g8009 x0 x1 x3 x4 x5 x7 x9 σ = (F_8009_24 tab g8009 x0 x1 x3 x4 x5 x7 x9 σ).bind (Sum.elim (fun s => f_8009_24 tab g8009 x0 x1 x3 s.1 s.2.1 s.2.2.1 s.2.2.2.1 s.2.2.2.2) some) := lpO_eq _ _
noncomputable def F_8009 (tab : px_T) (g8009 : px_M → Nat → Int32 → Int32 → Int32 → Option (Int64 × px_M)) (σ : px_M) (x0 : Nat) (x1 : Int32) (x2 : Int32) (x3 : Int32) : Option (Int64 × px_M) := if x1 < nI 0 then (some (((lN 0), σ))) else (if x1 < (nI 12) then (f_8009_24 tab g8009 x0 x1 x3 x2 ((lN 0)) ((lN 1)) ((nI 0)) σ) else (some (((lN 0), σ))))
def Sg_8009 (g : px_M → Nat → Int32 → Int32 → Int32 → Option (Int64 × px_M)) : px_S := fun av σ k => px_r1 av (fun x0 av => px_i1 av (fun x1 av => px_i1 av (fun x2 av => px_i1 av (fun x3 av => av = [] ∧ oW (g σ x0 x1 x2 x3) (fun q => k (some (.inr (.inl q.1))) q.2)))))
def kp_8009_203 (Q : Nat → Int32 → Int32 → Int32 → Int64 → Int64 → Int32 → px_M → Prop) : px_P := fun ls st τ => st = [] ∧ kN ls (fun x0 ls => kI ls (fun x1 ls => kZ ls (fun ls => kI ls (fun x3 ls => kI ls (fun x4 ls => kJ ls (fun x5 ls => kJ ls (fun x7 ls => kI ls (fun x9 ls => kZ ls (fun ls => kZ ls (fun ls => kZ ls (fun ls => kZ ls (fun ls => kZ ls (fun ls => kE ls (Q x0 x1 x3 x4 x5 x7 x9 τ))))))))))))))
theorem kq_8009_203 {C : px_C} {k : Option px_V → px_M → Prop} {Q : Nat → Int32 → Int32 → Int32 → Int64 → Int64 → Int32 → px_M → Prop} (H : ∀ (x0 : Nat) (x1 : Int32) (x3 : Int32) (x4 : Int32) (x5 : Int64) (x7 : Int64) (x9 : Int32) (τ : px_M), Q x0 x1 x3 x4 x5 x7 x9 τ → ∀ (z2 : Option px_V) (z10 : Option px_V) (z11 : Option px_V) (z12 : Option px_V) (z13 : Option px_V) (z14 : Option px_V), px_W C k 203 [some (.inr (.inr (some x0))), some (.inl x1), z2, some (.inl x3), some (.inl x4), some (.inr (.inl x5)), none, some (.inr (.inl x7)), none, some (.inl x9), z10, z11, z12, z13, z14] [] τ) : ∀ ls st τ, kp_8009_203 Q ls st τ → px_W C k 203 ls st τ := by
  intro ls st τ hz
  obtain ⟨ez, h0⟩ := hz
  obtain ⟨x0, l0, e0, h1⟩ := kN_sp h0
  obtain ⟨x1, l1, e1, h2⟩ := kI_sp h1
  obtain ⟨z2, l2, e2, h3⟩ := kZ_sp h2
  obtain ⟨x3, l3, e3, h4⟩ := kI_sp h3
  obtain ⟨x4, l4, e4, h5⟩ := kI_sp h4
  obtain ⟨x5, l5, e5, h6⟩ := kJ_sp h5
  obtain ⟨x7, l6, e6, h7⟩ := kJ_sp h6
  obtain ⟨x9, l7, e7, h8⟩ := kI_sp h7
  obtain ⟨z10, l8, e8, h9⟩ := kZ_sp h8
  obtain ⟨z11, l9, e9, h10⟩ := kZ_sp h9
  obtain ⟨z12, l10, e10, h11⟩ := kZ_sp h10
  obtain ⟨z13, l11, e11, h12⟩ := kZ_sp h11
  obtain ⟨z14, l12, e12, h13⟩ := kZ_sp h12
  obtain ⟨ey, hy⟩ := kE_sp h13
  subst ez
  subst ey
  subst e12
  subst e11
  subst e10
  subst e9
  subst e8
  subst e7
  subst e6
  subst e5
  subst e4
  subst e3
  subst e2
  subst e1
  subst e0
  exact H x0 x1 x3 x4 x5 x7 x9 τ hy z2 z10 z11 z12 z13 z14
def kp_8009_165 (Q : Nat → Int32 → Int32 → Int32 → Int64 → Int64 → Int32 → Int32 → Int32 → px_M → Prop) : px_P := fun ls st τ => st = [] ∧ kN ls (fun x0 ls => kI ls (fun x1 ls => kZ ls (fun ls => kI ls (fun x3 ls => kI ls (fun x4 ls => kJ ls (fun x5 ls => kJ ls (fun x7 ls => kI ls (fun x9 ls => kZ ls (fun ls => kZ ls (fun ls => kZ ls (fun ls => kI ls (fun x13 ls => kI ls (fun x14 ls => kE ls (Q x0 x1 x3 x4 x5 x7 x9 x13 x14 τ))))))))))))))
theorem kq_8009_165 {C : px_C} {k : Option px_V → px_M → Prop} {Q : Nat → Int32 → Int32 → Int32 → Int64 → Int64 → Int32 → Int32 → Int32 → px_M → Prop} (H : ∀ (x0 : Nat) (x1 : Int32) (x3 : Int32) (x4 : Int32) (x5 : Int64) (x7 : Int64) (x9 : Int32) (x13 : Int32) (x14 : Int32) (τ : px_M), Q x0 x1 x3 x4 x5 x7 x9 x13 x14 τ → ∀ (z2 : Option px_V) (z10 : Option px_V) (z11 : Option px_V) (z12 : Option px_V), px_W C k 165 [some (.inr (.inr (some x0))), some (.inl x1), z2, some (.inl x3), some (.inl x4), some (.inr (.inl x5)), none, some (.inr (.inl x7)), none, some (.inl x9), z10, z11, z12, some (.inl x13), some (.inl x14)] [] τ) : ∀ ls st τ, kp_8009_165 Q ls st τ → px_W C k 165 ls st τ := by
  intro ls st τ hz
  obtain ⟨ez, h0⟩ := hz
  obtain ⟨x0, l0, e0, h1⟩ := kN_sp h0
  obtain ⟨x1, l1, e1, h2⟩ := kI_sp h1
  obtain ⟨z2, l2, e2, h3⟩ := kZ_sp h2
  obtain ⟨x3, l3, e3, h4⟩ := kI_sp h3
  obtain ⟨x4, l4, e4, h5⟩ := kI_sp h4
  obtain ⟨x5, l5, e5, h6⟩ := kJ_sp h5
  obtain ⟨x7, l6, e6, h7⟩ := kJ_sp h6
  obtain ⟨x9, l7, e7, h8⟩ := kI_sp h7
  obtain ⟨z10, l8, e8, h9⟩ := kZ_sp h8
  obtain ⟨z11, l9, e9, h10⟩ := kZ_sp h9
  obtain ⟨z12, l10, e10, h11⟩ := kZ_sp h10
  obtain ⟨x13, l11, e11, h12⟩ := kI_sp h11
  obtain ⟨x14, l12, e12, h13⟩ := kI_sp h12
  obtain ⟨ey, hy⟩ := kE_sp h13
  subst ez
  subst ey
  subst e12
  subst e11
  subst e10
  subst e9
  subst e8
  subst e7
  subst e6
  subst e5
  subst e4
  subst e3
  subst e2
  subst e1
  subst e0
  exact H x0 x1 x3 x4 x5 x7 x9 x13 x14 τ hy z2 z10 z11 z12
def kp_8009_109 (Q : Nat → Int32 → Int32 → Int32 → Int64 → Int64 → Int32 → Int32 → px_M → Prop) : px_P := fun ls st τ => st = [] ∧ kN ls (fun x0 ls => kI ls (fun x1 ls => kZ ls (fun ls => kI ls (fun x3 ls => kI ls (fun x4 ls => kJ ls (fun x5 ls => kJ ls (fun x7 ls => kI ls (fun x9 ls => kZ ls (fun ls => kZ ls (fun ls => kI ls (fun x12 ls => kZ ls (fun ls => kZ ls (fun ls => kE ls (Q x0 x1 x3 x4 x5 x7 x9 x12 τ))))))))))))))
theorem kq_8009_109 {C : px_C} {k : Option px_V → px_M → Prop} {Q : Nat → Int32 → Int32 → Int32 → Int64 → Int64 → Int32 → Int32 → px_M → Prop} (H : ∀ (x0 : Nat) (x1 : Int32) (x3 : Int32) (x4 : Int32) (x5 : Int64) (x7 : Int64) (x9 : Int32) (x12 : Int32) (τ : px_M), Q x0 x1 x3 x4 x5 x7 x9 x12 τ → ∀ (z2 : Option px_V) (z10 : Option px_V) (z11 : Option px_V) (z13 : Option px_V) (z14 : Option px_V), px_W C k 109 [some (.inr (.inr (some x0))), some (.inl x1), z2, some (.inl x3), some (.inl x4), some (.inr (.inl x5)), none, some (.inr (.inl x7)), none, some (.inl x9), z10, z11, some (.inl x12), z13, z14] [] τ) : ∀ ls st τ, kp_8009_109 Q ls st τ → px_W C k 109 ls st τ := by
  intro ls st τ hz
  obtain ⟨ez, h0⟩ := hz
  obtain ⟨x0, l0, e0, h1⟩ := kN_sp h0
  obtain ⟨x1, l1, e1, h2⟩ := kI_sp h1
  obtain ⟨z2, l2, e2, h3⟩ := kZ_sp h2
  obtain ⟨x3, l3, e3, h4⟩ := kI_sp h3
  obtain ⟨x4, l4, e4, h5⟩ := kI_sp h4
  obtain ⟨x5, l5, e5, h6⟩ := kJ_sp h5
  obtain ⟨x7, l6, e6, h7⟩ := kJ_sp h6
  obtain ⟨x9, l7, e7, h8⟩ := kI_sp h7
  obtain ⟨z10, l8, e8, h9⟩ := kZ_sp h8
  obtain ⟨z11, l9, e9, h10⟩ := kZ_sp h9
  obtain ⟨x12, l10, e10, h11⟩ := kI_sp h10
  obtain ⟨z13, l11, e11, h12⟩ := kZ_sp h11
  obtain ⟨z14, l12, e12, h13⟩ := kZ_sp h12
  obtain ⟨ey, hy⟩ := kE_sp h13
  subst ez
  subst ey
  subst e12
  subst e11
  subst e10
  subst e9
  subst e8
  subst e7
  subst e6
  subst e5
  subst e4
  subst e3
  subst e2
  subst e1
  subst e0
  exact H x0 x1 x3 x4 x5 x7 x9 x12 τ hy z2 z10 z11 z13 z14
def kp_8009_72 (Q : Nat → Int32 → Int32 → Int32 → Int64 → Int64 → Int32 → Int32 → Int32 → px_M → Prop) : px_P := fun ls st τ => st = [] ∧ kN ls (fun x0 ls => kI ls (fun x1 ls => kZ ls (fun ls => kI ls (fun x3 ls => kI ls (fun x4 ls => kJ ls (fun x5 ls => kJ ls (fun x7 ls => kI ls (fun x9 ls => kI ls (fun x10 ls => kI ls (fun x11 ls => kZ ls (fun ls => kZ ls (fun ls => kZ ls (fun ls => kE ls (Q x0 x1 x3 x4 x5 x7 x9 x10 x11 τ))))))))))))))
theorem kq_8009_72 {C : px_C} {k : Option px_V → px_M → Prop} {Q : Nat → Int32 → Int32 → Int32 → Int64 → Int64 → Int32 → Int32 → Int32 → px_M → Prop} (H : ∀ (x0 : Nat) (x1 : Int32) (x3 : Int32) (x4 : Int32) (x5 : Int64) (x7 : Int64) (x9 : Int32) (x10 : Int32) (x11 : Int32) (τ : px_M), Q x0 x1 x3 x4 x5 x7 x9 x10 x11 τ → ∀ (z2 : Option px_V) (z12 : Option px_V) (z13 : Option px_V) (z14 : Option px_V), px_W C k 72 [some (.inr (.inr (some x0))), some (.inl x1), z2, some (.inl x3), some (.inl x4), some (.inr (.inl x5)), none, some (.inr (.inl x7)), none, some (.inl x9), some (.inl x10), some (.inl x11), z12, z13, z14] [] τ) : ∀ ls st τ, kp_8009_72 Q ls st τ → px_W C k 72 ls st τ := by
  intro ls st τ hz
  obtain ⟨ez, h0⟩ := hz
  obtain ⟨x0, l0, e0, h1⟩ := kN_sp h0
  obtain ⟨x1, l1, e1, h2⟩ := kI_sp h1
  obtain ⟨z2, l2, e2, h3⟩ := kZ_sp h2
  obtain ⟨x3, l3, e3, h4⟩ := kI_sp h3
  obtain ⟨x4, l4, e4, h5⟩ := kI_sp h4
  obtain ⟨x5, l5, e5, h6⟩ := kJ_sp h5
  obtain ⟨x7, l6, e6, h7⟩ := kJ_sp h6
  obtain ⟨x9, l7, e7, h8⟩ := kI_sp h7
  obtain ⟨x10, l8, e8, h9⟩ := kI_sp h8
  obtain ⟨x11, l9, e9, h10⟩ := kI_sp h9
  obtain ⟨z12, l10, e10, h11⟩ := kZ_sp h10
  obtain ⟨z13, l11, e11, h12⟩ := kZ_sp h11
  obtain ⟨z14, l12, e12, h13⟩ := kZ_sp h12
  obtain ⟨ey, hy⟩ := kE_sp h13
  subst ez
  subst ey
  subst e12
  subst e11
  subst e10
  subst e9
  subst e8
  subst e7
  subst e6
  subst e5
  subst e4
  subst e3
  subst e2
  subst e1
  subst e0
  exact H x0 x1 x3 x4 x5 x7 x9 x10 x11 τ hy z2 z12 z13 z14
def kp_8009_24 (Q : Nat → Int32 → Int32 → Int32 → Int64 → Int64 → Int32 → px_M → Prop) : px_P := fun ls st τ => st = [] ∧ kN ls (fun x0 ls => kI ls (fun x1 ls => kZ ls (fun ls => kI ls (fun x3 ls => kI ls (fun x4 ls => kJ ls (fun x5 ls => kJ ls (fun x7 ls => kI ls (fun x9 ls => kZ ls (fun ls => kZ ls (fun ls => kZ ls (fun ls => kZ ls (fun ls => kZ ls (fun ls => kE ls (Q x0 x1 x3 x4 x5 x7 x9 τ))))))))))))))
theorem kq_8009_24 {C : px_C} {k : Option px_V → px_M → Prop} {Q : Nat → Int32 → Int32 → Int32 → Int64 → Int64 → Int32 → px_M → Prop} (H : ∀ (x0 : Nat) (x1 : Int32) (x3 : Int32) (x4 : Int32) (x5 : Int64) (x7 : Int64) (x9 : Int32) (τ : px_M), Q x0 x1 x3 x4 x5 x7 x9 τ → ∀ (z2 : Option px_V) (z10 : Option px_V) (z11 : Option px_V) (z12 : Option px_V) (z13 : Option px_V) (z14 : Option px_V), px_W C k 24 [some (.inr (.inr (some x0))), some (.inl x1), z2, some (.inl x3), some (.inl x4), some (.inr (.inl x5)), none, some (.inr (.inl x7)), none, some (.inl x9), z10, z11, z12, z13, z14] [] τ) : ∀ ls st τ, kp_8009_24 Q ls st τ → px_W C k 24 ls st τ := by
  intro ls st τ hz
  obtain ⟨ez, h0⟩ := hz
  obtain ⟨x0, l0, e0, h1⟩ := kN_sp h0
  obtain ⟨x1, l1, e1, h2⟩ := kI_sp h1
  obtain ⟨z2, l2, e2, h3⟩ := kZ_sp h2
  obtain ⟨x3, l3, e3, h4⟩ := kI_sp h3
  obtain ⟨x4, l4, e4, h5⟩ := kI_sp h4
  obtain ⟨x5, l5, e5, h6⟩ := kJ_sp h5
  obtain ⟨x7, l6, e6, h7⟩ := kJ_sp h6
  obtain ⟨x9, l7, e7, h8⟩ := kI_sp h7
  obtain ⟨z10, l8, e8, h9⟩ := kZ_sp h8
  obtain ⟨z11, l9, e9, h10⟩ := kZ_sp h9
  obtain ⟨z12, l10, e10, h11⟩ := kZ_sp h10
  obtain ⟨z13, l11, e11, h12⟩ := kZ_sp h11
  obtain ⟨z14, l12, e12, h13⟩ := kZ_sp h12
  obtain ⟨ey, hy⟩ := kE_sp h13
  subst ez
  subst ey
  subst e12
  subst e11
  subst e10
  subst e9
  subst e8
  subst e7
  subst e6
  subst e5
  subst e4
  subst e3
  subst e2
  subst e1
  subst e0
  exact H x0 x1 x3 x4 x5 x7 x9 τ hy z2 z10 z11 z12 z13 z14
set_option maxHeartbeats 4000000 in
set_option maxRecDepth 100000 in
theorem rl_8009_203 {C : px_C} (hn : ((px_tb C).map Prod.fst).Nodup) {h : Nat} (hh : 4 ≤ h) (hC : px_ok C pn_i8009 h) {g8009 : px_M → Nat → Int32 → Int32 → Int32 → Option (Int64 × px_M)} (hg8009 : px_Ok (px_tb C) pn_i8009 (h - 1) (Sg_8009 g8009)) {k : Option px_V → px_M → Prop} {x0 : Nat} {x1 : Int32} {x3 : Int32} {x4 : Int32} {x5 : Int64} {x7 : Int64} {x9 : Int32} {σ : px_M} (hs : oW (f_8009_203 (px_tb C) g8009 σ x0 x1 x3 x4 x5 x7 x9) (Sum.elim (fun s : Int32 × Int64 × Int64 × Int32 × px_M => ∀ (z2 : Option px_V) (z10 : Option px_V) (z11 : Option px_V) (z12 : Option px_V) (z13 : Option px_V) (z14 : Option px_V), px_W C k 24 [some (.inr (.inr (some x0))), some (.inl x1), z2, some (.inl x3), some (.inl s.1), some (.inr (.inl s.2.1)), none, some (.inr (.inl s.2.2.1)), none, some (.inl s.2.2.2.1), z10, z11, z12, z13, z14] [] s.2.2.2.2) (fun q => k (some (.inr (.inl q.1))) q.2))) : ∀ (z2 : Option px_V) (z10 : Option px_V) (z11 : Option px_V) (z12 : Option px_V) (z13 : Option px_V) (z14 : Option px_V), px_W C k 203 [some (.inr (.inr (some x0))), some (.inl x1), z2, some (.inl x3), some (.inl x4), some (.inr (.inl x5)), none, some (.inr (.inl x7)), none, some (.inl x9), z10, z11, z12, z13, z14] [] σ := by
  intro z2 z10 z11 z12 z13 z14
  refine px_runG (h - 1) ck_8009 [] [(24, kp_8009_24 (fun y0 y1 y3 y4 y5 y7 y9 τ => y0 = x0 ∧ y1 = x1 ∧ y3 = x3 ∧ (fun s : Int32 × Int64 × Int64 × Int32 × px_M => ∀ (z2 : Option px_V) (z10 : Option px_V) (z11 : Option px_V) (z12 : Option px_V) (z13 : Option px_V) (z14 : Option px_V), px_W C k 24 [some (.inr (.inr (some x0))), some (.inl x1), z2, some (.inl x3), some (.inl s.1), some (.inr (.inl s.2.1)), none, some (.inr (.inl s.2.2.1)), none, some (.inl s.2.2.2.1), z10, z11, z12, z13, z14] [] s.2.2.2.2) (y4, y5, y7, y9, τ)))] 80 hC px_nosp (by omega) (px_cut1 (kq_8009_24 (fun y0 y1 y3 y4 y5 y7 y9 τ hq => by obtain ⟨rfl, rfl, rfl, hq⟩ := hq; exact hq)) px_nocut) (fun G Jf hG hJf => ?_)
  simp only [f_8009_203, oW_some, oW_none, oW_bind, oW_map, oW_ite, oW_bn, oW_gd, oW_oA, Sum.elim_inl, Sum.elim_inr, oW_and, true_and, and_true, false_and, and_false, true_or, or_true, false_or, or_false, and_self, or_self, not_false_eq_true, not_true_eq_false, false_implies, forall_const, true_implies, eq_self, ↓reduceIte] at hs
  simp only [↓hG, ↓hJf, ↓px_vc, ↓px_ex, ↓px_jp, ↓px_gi, ↓px_gl, ↓px_gr, ↓px_s1, ↓px_s2, ↓px_nl, ↓px_i1, ↓px_l1, ↓px_r1_o, ↓px_q1, ↓px_i2, ↓px_l2, ↓px_il, ↓px_d0, ↓px_d1, ↓px_d2, ↓px_pop, px_sz, ↓px_sp, ↓px_rd, ↓px_pt, ↓px_rok, ↓px_rv_o, ↓px_fill, ↓px_sl, ↓px_sw, ↓pn_SW, lc_lt, lc_ge, lc_gt, lc_le, lc_eq, ↓reduceIte, Nat.reduceEqDiff, Nat.reduceLeDiff, Nat.reduceAdd, Nat.reduceSub, reduceCtorEq, List.length_cons, List.length_nil, Option.toList_some, Option.toList_none, List.cons_append, List.nil_append, true_and, and_true, false_and, and_false, true_or, or_true, false_or, or_false, and_self, or_self, not_false_eq_true, not_true_eq_false, false_implies, forall_const, true_implies, eq_self, ↓kI_s, ↓kJ_s, ↓kN_s, ↓kO_s, ↓kZ_s, ↓kE_s, oW_and, ↓bk_8009, ↓pn_i8009, oW_some, oW_none, oW_bind, oW_map, oW_ite, oW_bn, oW_gd, oW_oA, Sum.elim_inl, Sum.elim_inr, ↓kp_8009_24]
  exact hs
set_option maxHeartbeats 4000000 in
set_option maxRecDepth 100000 in
theorem rl_8009_165 {C : px_C} (hn : ((px_tb C).map Prod.fst).Nodup) {h : Nat} (hh : 4 ≤ h) (hC : px_ok C pn_i8009 h) {g8009 : px_M → Nat → Int32 → Int32 → Int32 → Option (Int64 × px_M)} (hg8009 : px_Ok (px_tb C) pn_i8009 (h - 1) (Sg_8009 g8009)) {k : Option px_V → px_M → Prop} {x0 : Nat} {x1 : Int32} {x3 : Int32} {x4 : Int32} {x5 : Int64} {x7 : Int64} {x9 : Int32} {x13 : Int32} {x14 : Int32} {σ : px_M} (hs : oW (f_8009_165 (px_tb C) g8009 σ x0 x1 x3 x4 x5 x7 x9 x13 x14) (Sum.elim (fun s : Int32 × Int64 × Int64 × Int32 × px_M => ∀ (z2 : Option px_V) (z10 : Option px_V) (z11 : Option px_V) (z12 : Option px_V) (z13 : Option px_V) (z14 : Option px_V), px_W C k 24 [some (.inr (.inr (some x0))), some (.inl x1), z2, some (.inl x3), some (.inl s.1), some (.inr (.inl s.2.1)), none, some (.inr (.inl s.2.2.1)), none, some (.inl s.2.2.2.1), z10, z11, z12, z13, z14] [] s.2.2.2.2) (fun q => k (some (.inr (.inl q.1))) q.2))) : ∀ (z2 : Option px_V) (z10 : Option px_V) (z11 : Option px_V) (z12 : Option px_V), px_W C k 165 [some (.inr (.inr (some x0))), some (.inl x1), z2, some (.inl x3), some (.inl x4), some (.inr (.inl x5)), none, some (.inr (.inl x7)), none, some (.inl x9), z10, z11, z12, some (.inl x13), some (.inl x14)] [] σ := by
  intro z2 z10 z11 z12
  refine px_runG (h - 1) ck_8009 [(8010, Sg_8010 (f_8010 (px_tb C))), (8011, Sg_8011 (f_8011 (px_tb C)))] [(203, kp_8009_203 (fun y0 y1 y3 y4 y5 y7 y9 τ => y0 = x0 ∧ y1 = x1 ∧ y3 = x3 ∧ oW (f_8009_203 (px_tb C) g8009 τ y0 y1 y3 y4 y5 y7 y9) (Sum.elim (fun s : Int32 × Int64 × Int64 × Int32 × px_M => ∀ (z2 : Option px_V) (z10 : Option px_V) (z11 : Option px_V) (z12 : Option px_V) (z13 : Option px_V) (z14 : Option px_V), px_W C k 24 [some (.inr (.inr (some x0))), some (.inl x1), z2, some (.inl x3), some (.inl s.1), some (.inr (.inl s.2.1)), none, some (.inr (.inl s.2.2.1)), none, some (.inl s.2.2.2.1), z10, z11, z12, z13, z14] [] s.2.2.2.2) (fun q => k (some (.inr (.inl q.1))) q.2))))] 80 hC (px_sp1 (mf_8010 hn (by omega)) (px_sp1 (mf_8011 hn (by omega)) px_nosp)) (by omega) (px_cut1 (kq_8009_203 (fun y0 y1 y3 y4 y5 y7 y9 τ hq => by obtain ⟨rfl, rfl, rfl, hq⟩ := hq; exact rl_8009_203 hn (by omega) hC hg8009  hq)) px_nocut) (fun G Jf hG hJf => ?_)
  simp only [f_8009_165, oW_some, oW_none, oW_bind, oW_map, oW_ite, oW_bn, oW_gd, oW_oA, Sum.elim_inl, Sum.elim_inr, oW_and, true_and, and_true, false_and, and_false, true_or, or_true, false_or, or_false, and_self, or_self, not_false_eq_true, not_true_eq_false, false_implies, forall_const, true_implies, eq_self, ↓reduceIte] at hs
  simp only [↓hG, ↓hJf, ↓px_vc, ↓px_ex, ↓px_jp, ↓px_gi, ↓px_gl, ↓px_gr, ↓px_s1, ↓px_s2, ↓px_nl, ↓px_i1, ↓px_l1, ↓px_r1_o, ↓px_q1, ↓px_i2, ↓px_l2, ↓px_il, ↓px_d0, ↓px_d1, ↓px_d2, ↓px_pop, px_sz, ↓px_sp, ↓px_rd, ↓px_pt, ↓px_rok, ↓px_rv_o, ↓px_fill, ↓px_sl, ↓px_sw, ↓pn_SW, lc_lt, lc_ge, lc_gt, lc_le, lc_eq, ↓reduceIte, Nat.reduceEqDiff, Nat.reduceLeDiff, Nat.reduceAdd, Nat.reduceSub, reduceCtorEq, List.length_cons, List.length_nil, Option.toList_some, Option.toList_none, List.cons_append, List.nil_append, true_and, and_true, false_and, and_false, true_or, or_true, false_or, or_false, and_self, or_self, not_false_eq_true, not_true_eq_false, false_implies, forall_const, true_implies, eq_self, ↓kI_s, ↓kJ_s, ↓kN_s, ↓kO_s, ↓kZ_s, ↓kE_s, oW_and, ↓bk_8009, ↓pn_i8009, oW_some, oW_none, oW_bind, oW_map, oW_ite, oW_bn, oW_gd, oW_oA, Sum.elim_inl, Sum.elim_inr, ↓Sg_8010, ↓Sg_8011, ↓kp_8009_203]
  exact hs
set_option maxHeartbeats 4000000 in
set_option maxRecDepth 100000 in
theorem rl_8009_109 {C : px_C} (hn : ((px_tb C).map Prod.fst).Nodup) {h : Nat} (hh : 4 ≤ h) (hC : px_ok C pn_i8009 h) {g8009 : px_M → Nat → Int32 → Int32 → Int32 → Option (Int64 × px_M)} (hg8009 : px_Ok (px_tb C) pn_i8009 (h - 1) (Sg_8009 g8009)) {k : Option px_V → px_M → Prop} {x0 : Nat} {x1 : Int32} {x3 : Int32} {x4 : Int32} {x5 : Int64} {x7 : Int64} {x9 : Int32} {x12 : Int32} {σ : px_M} (hs : oW (f_8009_109 (px_tb C) g8009 σ x0 x1 x3 x4 x5 x7 x9 x12) (Sum.elim (fun s : Int32 × Int64 × Int64 × Int32 × px_M => ∀ (z2 : Option px_V) (z10 : Option px_V) (z11 : Option px_V) (z12 : Option px_V) (z13 : Option px_V) (z14 : Option px_V), px_W C k 24 [some (.inr (.inr (some x0))), some (.inl x1), z2, some (.inl x3), some (.inl s.1), some (.inr (.inl s.2.1)), none, some (.inr (.inl s.2.2.1)), none, some (.inl s.2.2.2.1), z10, z11, z12, z13, z14] [] s.2.2.2.2) (fun q => k (some (.inr (.inl q.1))) q.2))) : ∀ (z2 : Option px_V) (z10 : Option px_V) (z11 : Option px_V) (z13 : Option px_V) (z14 : Option px_V), px_W C k 109 [some (.inr (.inr (some x0))), some (.inl x1), z2, some (.inl x3), some (.inl x4), some (.inr (.inl x5)), none, some (.inr (.inl x7)), none, some (.inl x9), z10, z11, some (.inl x12), z13, z14] [] σ := by
  intro z2 z10 z11 z13 z14
  refine px_runG (h - 1) ck_8009 [(8009, Sg_8009 g8009), (8014, Sg_8014 (f_8014 (px_tb C)))] [(165, kp_8009_165 (fun y0 y1 y3 y4 y5 y7 y9 y13 y14 τ => y0 = x0 ∧ y1 = x1 ∧ y3 = x3 ∧ oW (f_8009_165 (px_tb C) g8009 τ y0 y1 y3 y4 y5 y7 y9 y13 y14) (Sum.elim (fun s : Int32 × Int64 × Int64 × Int32 × px_M => ∀ (z2 : Option px_V) (z10 : Option px_V) (z11 : Option px_V) (z12 : Option px_V) (z13 : Option px_V) (z14 : Option px_V), px_W C k 24 [some (.inr (.inr (some x0))), some (.inl x1), z2, some (.inl x3), some (.inl s.1), some (.inr (.inl s.2.1)), none, some (.inr (.inl s.2.2.1)), none, some (.inl s.2.2.2.1), z10, z11, z12, z13, z14] [] s.2.2.2.2) (fun q => k (some (.inr (.inl q.1))) q.2))))] 80 hC (px_sp1 (hg8009) (px_sp1 (mf_8014 hn (by omega)) px_nosp)) (by omega) (px_cut1 (kq_8009_165 (fun y0 y1 y3 y4 y5 y7 y9 y13 y14 τ hq => by obtain ⟨rfl, rfl, rfl, hq⟩ := hq; exact rl_8009_165 hn (by omega) hC hg8009  hq)) px_nocut) (fun G Jf hG hJf => ?_)
  simp only [f_8009_109, oW_some, oW_none, oW_bind, oW_map, oW_ite, oW_bn, oW_gd, oW_oA, Sum.elim_inl, Sum.elim_inr, oW_and, true_and, and_true, false_and, and_false, true_or, or_true, false_or, or_false, and_self, or_self, not_false_eq_true, not_true_eq_false, false_implies, forall_const, true_implies, eq_self, ↓reduceIte] at hs
  simp only [↓hG, ↓hJf, ↓px_vc, ↓px_ex, ↓px_jp, ↓px_gi, ↓px_gl, ↓px_gr, ↓px_s1, ↓px_s2, ↓px_nl, ↓px_i1, ↓px_l1, ↓px_r1_o, ↓px_q1, ↓px_i2, ↓px_l2, ↓px_il, ↓px_d0, ↓px_d1, ↓px_d2, ↓px_pop, px_sz, ↓px_sp, ↓px_rd, ↓px_pt, ↓px_rok, ↓px_rv_o, ↓px_fill, ↓px_sl, ↓px_sw, ↓pn_SW, lc_lt, lc_ge, lc_gt, lc_le, lc_eq, ↓reduceIte, Nat.reduceEqDiff, Nat.reduceLeDiff, Nat.reduceAdd, Nat.reduceSub, reduceCtorEq, List.length_cons, List.length_nil, Option.toList_some, Option.toList_none, List.cons_append, List.nil_append, true_and, and_true, false_and, and_false, true_or, or_true, false_or, or_false, and_self, or_self, not_false_eq_true, not_true_eq_false, false_implies, forall_const, true_implies, eq_self, ↓kI_s, ↓kJ_s, ↓kN_s, ↓kO_s, ↓kZ_s, ↓kE_s, oW_and, ↓bk_8009, ↓pn_i8009, oW_some, oW_none, oW_bind, oW_map, oW_ite, oW_bn, oW_gd, oW_oA, Sum.elim_inl, Sum.elim_inr, ↓Sg_8009, ↓Sg_8014, ↓kp_8009_165]
  exact hs
set_option maxHeartbeats 4000000 in
set_option maxRecDepth 100000 in
theorem rl_8009_72 {C : px_C} (hn : ((px_tb C).map Prod.fst).Nodup) {h : Nat} (hh : 4 ≤ h) (hC : px_ok C pn_i8009 h) {g8009 : px_M → Nat → Int32 → Int32 → Int32 → Option (Int64 × px_M)} (hg8009 : px_Ok (px_tb C) pn_i8009 (h - 1) (Sg_8009 g8009)) {k : Option px_V → px_M → Prop} {x0 : Nat} {x1 : Int32} {x3 : Int32} {x4 : Int32} {x5 : Int64} {x7 : Int64} {x9 : Int32} {x10 : Int32} {x11 : Int32} {σ : px_M} (hs : oW (f_8009_72 (px_tb C) g8009 σ x0 x1 x3 x4 x5 x7 x9 x10 x11) (Sum.elim (fun s : Int32 × Int64 × Int64 × Int32 × px_M => ∀ (z2 : Option px_V) (z10 : Option px_V) (z11 : Option px_V) (z12 : Option px_V) (z13 : Option px_V) (z14 : Option px_V), px_W C k 24 [some (.inr (.inr (some x0))), some (.inl x1), z2, some (.inl x3), some (.inl s.1), some (.inr (.inl s.2.1)), none, some (.inr (.inl s.2.2.1)), none, some (.inl s.2.2.2.1), z10, z11, z12, z13, z14] [] s.2.2.2.2) (fun q => k (some (.inr (.inl q.1))) q.2))) : ∀ (z2 : Option px_V) (z12 : Option px_V) (z13 : Option px_V) (z14 : Option px_V), px_W C k 72 [some (.inr (.inr (some x0))), some (.inl x1), z2, some (.inl x3), some (.inl x4), some (.inr (.inl x5)), none, some (.inr (.inl x7)), none, some (.inl x9), some (.inl x10), some (.inl x11), z12, z13, z14] [] σ := by
  intro z2 z12 z13 z14
  refine px_runG (h - 1) ck_8009 [(21000, Sg_21000 (f_21000 (px_tb C)))] [(203, kp_8009_203 (fun y0 y1 y3 y4 y5 y7 y9 τ => y0 = x0 ∧ y1 = x1 ∧ y3 = x3 ∧ oW (f_8009_203 (px_tb C) g8009 τ y0 y1 y3 y4 y5 y7 y9) (Sum.elim (fun s : Int32 × Int64 × Int64 × Int32 × px_M => ∀ (z2 : Option px_V) (z10 : Option px_V) (z11 : Option px_V) (z12 : Option px_V) (z13 : Option px_V) (z14 : Option px_V), px_W C k 24 [some (.inr (.inr (some x0))), some (.inl x1), z2, some (.inl x3), some (.inl s.1), some (.inr (.inl s.2.1)), none, some (.inr (.inl s.2.2.1)), none, some (.inl s.2.2.2.1), z10, z11, z12, z13, z14] [] s.2.2.2.2) (fun q => k (some (.inr (.inl q.1))) q.2))))] 80 hC (px_sp1 (mf_21000 hn (by omega)) px_nosp) (by omega) (px_cut1 (kq_8009_203 (fun y0 y1 y3 y4 y5 y7 y9 τ hq => by obtain ⟨rfl, rfl, rfl, hq⟩ := hq; exact rl_8009_203 hn (by omega) hC hg8009  hq)) px_nocut) (fun G Jf hG hJf => ?_)
  simp only [f_8009_72, oW_some, oW_none, oW_bind, oW_map, oW_ite, oW_bn, oW_gd, oW_oA, Sum.elim_inl, Sum.elim_inr, oW_and, true_and, and_true, false_and, and_false, true_or, or_true, false_or, or_false, and_self, or_self, not_false_eq_true, not_true_eq_false, false_implies, forall_const, true_implies, eq_self, ↓reduceIte] at hs
  simp only [↓hG, ↓hJf, ↓px_vc, ↓px_ex, ↓px_jp, ↓px_gi, ↓px_gl, ↓px_gr, ↓px_s1, ↓px_s2, ↓px_nl, ↓px_i1, ↓px_l1, ↓px_r1_o, ↓px_q1, ↓px_i2, ↓px_l2, ↓px_il, ↓px_d0, ↓px_d1, ↓px_d2, ↓px_pop, px_sz, ↓px_sp, ↓px_rd, ↓px_pt, ↓px_rok, ↓px_rv_o, ↓px_fill, ↓px_sl, ↓px_sw, ↓pn_SW, lc_lt, lc_ge, lc_gt, lc_le, lc_eq, ↓reduceIte, Nat.reduceEqDiff, Nat.reduceLeDiff, Nat.reduceAdd, Nat.reduceSub, reduceCtorEq, List.length_cons, List.length_nil, Option.toList_some, Option.toList_none, List.cons_append, List.nil_append, true_and, and_true, false_and, and_false, true_or, or_true, false_or, or_false, and_self, or_self, not_false_eq_true, not_true_eq_false, false_implies, forall_const, true_implies, eq_self, ↓kI_s, ↓kJ_s, ↓kN_s, ↓kO_s, ↓kZ_s, ↓kE_s, oW_and, ↓bk_8009, ↓pn_i8009, oW_some, oW_none, oW_bind, oW_map, oW_ite, oW_bn, oW_gd, oW_oA, Sum.elim_inl, Sum.elim_inr, ↓Sg_21000, ↓kp_8009_203]
  exact hs
set_option maxHeartbeats 4000000 in
set_option maxRecDepth 100000 in
theorem rl_8009_24 {C : px_C} (hn : ((px_tb C).map Prod.fst).Nodup) {h : Nat} (hh : 4 ≤ h) (hC : px_ok C pn_i8009 h) {g8009 : px_M → Nat → Int32 → Int32 → Int32 → Option (Int64 × px_M)} (hg8009 : px_Ok (px_tb C) pn_i8009 (h - 1) (Sg_8009 g8009)) {k : Option px_V → px_M → Prop} {x0 : Nat} {x1 : Int32} {x3 : Int32} : ∀ s : Int32 × Int64 × Int64 × Int32 × px_M, oW (f_8009_24 (px_tb C) g8009 x0 x1 x3 s.1 s.2.1 s.2.2.1 s.2.2.2.1 s.2.2.2.2) (fun q => k (some (.inr (.inl q.1))) q.2) → (fun s : Int32 × Int64 × Int64 × Int32 × px_M => ∀ (z2 : Option px_V) (z10 : Option px_V) (z11 : Option px_V) (z12 : Option px_V) (z13 : Option px_V) (z14 : Option px_V), px_W C k 24 [some (.inr (.inr (some x0))), some (.inl x1), z2, some (.inl x3), some (.inl s.1), some (.inr (.inl s.2.1)), none, some (.inr (.inl s.2.2.1)), none, some (.inl s.2.2.2.1), z10, z11, z12, z13, z14] [] s.2.2.2.2) s := by
  intro s h0
  refine lpO_sound (P := (fun s : Int32 × Int64 × Int64 × Int32 × px_M => ∀ (z2 : Option px_V) (z10 : Option px_V) (z11 : Option px_V) (z12 : Option px_V) (z13 : Option px_V) (z14 : Option px_V), px_W C k 24 [some (.inr (.inr (some x0))), some (.inl x1), z2, some (.inl x3), some (.inl s.1), some (.inr (.inl s.2.1)), none, some (.inr (.inl s.2.2.1)), none, some (.inl s.2.2.2.1), z10, z11, z12, z13, z14] [] s.2.2.2.2)) (fun s hs => ?_) h0
  obtain ⟨x4, x5, x7, x9, σ⟩ := s
  intro z2 z10 z11 z12 z13 z14
  refine px_runG (h - 1) ck_8009 [(8010, Sg_8010 (f_8010 (px_tb C))), (8012, Sg_8012 (f_8012 (px_tb C))), (8013, Sg_8013 (f_8013 (px_tb C)))] [(72, kp_8009_72 (fun y0 y1 y3 y4 y5 y7 y9 y10 y11 τ => y0 = x0 ∧ y1 = x1 ∧ y3 = x3 ∧ oW (f_8009_72 (px_tb C) g8009 τ y0 y1 y3 y4 y5 y7 y9 y10 y11) (Sum.elim (fun s : Int32 × Int64 × Int64 × Int32 × px_M => ∀ (z2 : Option px_V) (z10 : Option px_V) (z11 : Option px_V) (z12 : Option px_V) (z13 : Option px_V) (z14 : Option px_V), px_W C k 24 [some (.inr (.inr (some x0))), some (.inl x1), z2, some (.inl x3), some (.inl s.1), some (.inr (.inl s.2.1)), none, some (.inr (.inl s.2.2.1)), none, some (.inl s.2.2.2.1), z10, z11, z12, z13, z14] [] s.2.2.2.2) (fun q => k (some (.inr (.inl q.1))) q.2)))), (109, kp_8009_109 (fun y0 y1 y3 y4 y5 y7 y9 y12 τ => y0 = x0 ∧ y1 = x1 ∧ y3 = x3 ∧ oW (f_8009_109 (px_tb C) g8009 τ y0 y1 y3 y4 y5 y7 y9 y12) (Sum.elim (fun s : Int32 × Int64 × Int64 × Int32 × px_M => ∀ (z2 : Option px_V) (z10 : Option px_V) (z11 : Option px_V) (z12 : Option px_V) (z13 : Option px_V) (z14 : Option px_V), px_W C k 24 [some (.inr (.inr (some x0))), some (.inl x1), z2, some (.inl x3), some (.inl s.1), some (.inr (.inl s.2.1)), none, some (.inr (.inl s.2.2.1)), none, some (.inl s.2.2.2.1), z10, z11, z12, z13, z14] [] s.2.2.2.2) (fun q => k (some (.inr (.inl q.1))) q.2))))] 80 hC (px_sp1 (mf_8010 hn (by omega)) (px_sp1 (mf_8012 hn (by omega)) (px_sp1 (mf_8013 hn (by omega)) px_nosp))) (by omega) (px_cut1 (kq_8009_72 (fun y0 y1 y3 y4 y5 y7 y9 y10 y11 τ hq => by obtain ⟨rfl, rfl, rfl, hq⟩ := hq; exact rl_8009_72 hn (by omega) hC hg8009  hq)) (px_cut1 (kq_8009_109 (fun y0 y1 y3 y4 y5 y7 y9 y12 τ hq => by obtain ⟨rfl, rfl, rfl, hq⟩ := hq; exact rl_8009_109 hn (by omega) hC hg8009  hq)) px_nocut)) (fun G Jf hG hJf => ?_)
  simp only [F_8009_24, oW_some, oW_none, oW_bind, oW_map, oW_ite, oW_bn, oW_gd, oW_oA, Sum.elim_inl, Sum.elim_inr, oW_and, true_and, and_true, false_and, and_false, true_or, or_true, false_or, or_false, and_self, or_self, not_false_eq_true, not_true_eq_false, false_implies, forall_const, true_implies, eq_self, ↓reduceIte] at hs
  simp only [↓hG, ↓hJf, ↓px_vc, ↓px_ex, ↓px_jp, ↓px_gi, ↓px_gl, ↓px_gr, ↓px_s1, ↓px_s2, ↓px_nl, ↓px_i1, ↓px_l1, ↓px_r1_o, ↓px_q1, ↓px_i2, ↓px_l2, ↓px_il, ↓px_d0, ↓px_d1, ↓px_d2, ↓px_pop, px_sz, ↓px_sp, ↓px_rd, ↓px_pt, ↓px_rok, ↓px_rv_o, ↓px_fill, ↓px_sl, ↓px_sw, ↓pn_SW, lc_lt, lc_ge, lc_gt, lc_le, lc_eq, ↓reduceIte, Nat.reduceEqDiff, Nat.reduceLeDiff, Nat.reduceAdd, Nat.reduceSub, reduceCtorEq, List.length_cons, List.length_nil, Option.toList_some, Option.toList_none, List.cons_append, List.nil_append, true_and, and_true, false_and, and_false, true_or, or_true, false_or, or_false, and_self, or_self, not_false_eq_true, not_true_eq_false, false_implies, forall_const, true_implies, eq_self, ↓kI_s, ↓kJ_s, ↓kN_s, ↓kO_s, ↓kZ_s, ↓kE_s, oW_and, ↓bk_8009, ↓pn_i8009, oW_some, oW_none, oW_bind, oW_map, oW_ite, oW_bn, oW_gd, oW_oA, Sum.elim_inl, Sum.elim_inr, ↓Sg_8010, ↓Sg_8012, ↓Sg_8013, ↓kp_8009_72, ↓kp_8009_109]
  exact hs
set_option maxHeartbeats 4000000 in
set_option maxRecDepth 100000 in
theorem mF_8009 {tab : px_T} (hn : (tab.map Prod.fst).Nodup) {h : Nat} (hh : 4 ≤ h) {g8009 : px_M → Nat → Int32 → Int32 → Int32 → Option (Int64 × px_M)} (hg8009 : px_Ok tab pn_i8009 (h - 1) (Sg_8009 g8009)) : px_Ok tab pn_i8009 h (Sg_8009 (F_8009 tab g8009)) := by
  refine px_mth hn (by decide +kernel) (fun av σ k hS => ?_) (fun C hT hC av σ k hS => ?_)
  · obtain ⟨x0, av0, e0, h0⟩ := px_r1_spec hS
    obtain ⟨x1, av1, e1, h1⟩ := px_i1_spec h0
    obtain ⟨x2, av2, e2, h2⟩ := px_i1_spec h1
    obtain ⟨x3, av3, e3, h3⟩ := px_i1_spec h2
    obtain ⟨ez, hz⟩ := h3
    subst ez
    subst e3
    subst e2
    subst e1
    subst e0
    exact Nat.le_of_ble_eq_true rfl
  · obtain ⟨x0, av0, e0, h0⟩ := px_r1_spec hS
    obtain ⟨x1, av1, e1, h1⟩ := px_i1_spec h0
    obtain ⟨x2, av2, e2, h2⟩ := px_i1_spec h1
    obtain ⟨x3, av3, e3, h3⟩ := px_i1_spec h2
    obtain ⟨ez, hz⟩ := h3
    subst ez
    subst e3
    subst e2
    subst e1
    subst e0
    subst hT
    refine px_runG (h - 1) ck_8009 [] [(24, kp_8009_24 (fun y0 y1 y3 y4 y5 y7 y9 τ => oW (f_8009_24 (px_tb C) g8009 y0 y1 y3 y4 y5 y7 y9 τ) (fun q => k (some (.inr (.inl q.1))) q.2)))] 80 hC px_nosp (by omega) (px_cut1 (kq_8009_24 (fun y0 y1 y3 y4 y5 y7 y9 τ hq => by exact rl_8009_24 hn (by omega) hC hg8009 (y4, y5, y7, y9, τ) hq)) px_nocut) (fun G Jf hG hJf => ?_)
    simp only [F_8009, oW_some, oW_none, oW_bind, oW_map, oW_ite, oW_bn, oW_gd, oW_oA, Sum.elim_inl, Sum.elim_inr, oW_and, true_and, and_true, false_and, and_false, true_or, or_true, false_or, or_false, and_self, or_self, not_false_eq_true, not_true_eq_false, false_implies, forall_const, true_implies, eq_self, ↓reduceIte] at hz
    simp only [↓hG, ↓hJf, ↓px_vc, ↓px_ex, ↓px_jp, ↓px_gi, ↓px_gl, ↓px_gr, ↓px_s1, ↓px_s2, ↓px_nl, ↓px_i1, ↓px_l1, ↓px_r1_o, ↓px_q1, ↓px_i2, ↓px_l2, ↓px_il, ↓px_d0, ↓px_d1, ↓px_d2, ↓px_pop, px_sz, ↓px_sp, ↓px_rd, ↓px_pt, ↓px_rok, ↓px_rv_o, ↓px_fill, ↓px_sl, ↓px_sw, ↓pn_SW, lc_lt, lc_ge, lc_gt, lc_le, lc_eq, ↓reduceIte, Nat.reduceEqDiff, Nat.reduceLeDiff, Nat.reduceAdd, Nat.reduceSub, reduceCtorEq, List.length_cons, List.length_nil, Option.toList_some, Option.toList_none, List.cons_append, List.nil_append, true_and, and_true, false_and, and_false, true_or, or_true, false_or, or_false, and_self, or_self, not_false_eq_true, not_true_eq_false, false_implies, forall_const, true_implies, eq_self, ↓kI_s, ↓kJ_s, ↓kN_s, ↓kO_s, ↓kZ_s, ↓kE_s, oW_and, ↓bk_8009, ↓pn_i8009, oW_some, oW_none, oW_bind, oW_map, oW_ite, oW_bn, oW_gd, oW_oA, Sum.elim_inl, Sum.elim_inr, ↓kp_8009_24]
    exact hz
noncomputable def fr_8009 (tab : px_T) : Nat → (px_M → Nat → Int32 → Int32 → Int32 → Option (Int64 × px_M))
  | 0 => fun _ _ _ _ _ => none
  | d + 1 => F_8009 tab ((fr_8009 tab d))
noncomputable def f_8009 (tab : px_T) (d : Nat) : px_M → Nat → Int32 → Int32 → Int32 → Option (Int64 × px_M) := fr_8009 tab d
theorem f_8009_S (tab : px_T) (d : Nat) : f_8009 tab (d + 1) = F_8009 tab (f_8009 tab d) := rfl
theorem mr_f8009 {tab : px_T} (hn : (tab.map Prod.fst).Nodup) : ∀ (d h : Nat), 3 + d ≤ h → px_Ok tab pn_i8009 h (Sg_8009 (f_8009 tab d)) := by
  intro d
  induction d with
  | zero =>
    intro h hh
    exact px_Ok_no (fun av σ k h0 => by obtain ⟨x0, av0, -, h1⟩ := px_r1_spec h0; obtain ⟨x1, av1, -, h2⟩ := px_i1_spec h1; obtain ⟨x2, av2, -, h3⟩ := px_i1_spec h2; obtain ⟨x3, av3, -, h4⟩ := px_i1_spec h3; exact h4.2.elim)
  | succ d ih =>
    intro h hh
    have h8009 := ih (h - 1) (by omega)
    exact mF_8009 hn (by omega) h8009
theorem mf_8009 {tab : px_T} (hn : (tab.map Prod.fst).Nodup) {h d : Nat} (hh : 3 + d ≤ h) : px_Ok tab pn_i8009 h (Sg_8009 (f_8009 tab d)) := (mr_f8009 hn d h hh)
/-- NoThree$Painter.waysWith(LNoThree$Town;I)J -/
noncomputable def F_8008_2 (tab : px_T) (x0 : Nat) (x1 : Nat) (x2 : Int32) (x3 : Int32) (σ : px_M) : Option ((Int32 × px_M) ⊕ (Int64 × px_M)) := if (nI 11) ≤ x3 then (gd (px_obj (px_lay tab x1) 11) ((f_11004 tab σ x1).bind fun r1 => gd (px_obj (px_lay tab x0) 8) ((f_8009 tab 24 σ x0 ((nI 0)) r1 x2).bind fun q2 => some (.inr ((q2.1, q2.2)))))) else (gd (px_obj (px_lay tab x0) 8) (gd (px_obj (px_lay tab x1) 11) ((((σ).2.2 x1 1)).bind fun n3 => oA (px_lay tab n3) fun t4 l5 => gd (t4 = 0) (gd (vp_in x3 l5) ((((σ).2.2 x0 1)).bind fun n6 => oA (px_lay tab n6) fun t7 l8 => gd (t7 = 0) (gd (vp_in x3 l8) (some (.inl (((x3 + (nI 1)), (px_wi σ n6 (x3).toNatClampNeg ((σ).1 n3 (x3).toNatClampNeg))))))))))))
noncomputable def f_8008_2 (tab : px_T) (x0 : Nat) (x1 : Nat) (x2 : Int32) (x3 : Int32) (σ : px_M) : Option (Int64 × px_M) := lpO (fun s : Int32 × px_M => F_8008_2 tab x0 x1 x2 s.1 s.2) (x3, σ)
theorem f_8008_2_eq (tab : px_T) (x0 : Nat) (x1 : Nat) (x2 : Int32) (x3 : Int32) (σ : px_M) : f_8008_2 tab x0 x1 x2 x3 σ = (F_8008_2 tab x0 x1 x2 x3 σ).bind (Sum.elim (fun s => f_8008_2 tab x0 x1 x2 s.1 s.2) some) := lpO_eq _ _
noncomputable def f_8008 (tab : px_T) (σ : px_M) (x0 : Nat) (x1 : Nat) (x2 : Int32) : Option (Int64 × px_M) := f_8008_2 tab x0 x1 x2 ((nI 0)) σ
def Sg_8008 (g : px_M → Nat → Nat → Int32 → Option (Int64 × px_M)) : px_S := fun av σ k => px_r1 av (fun x0 av => px_r1 av (fun x1 av => px_i1 av (fun x2 av => av = [] ∧ oW (g σ x0 x1 x2) (fun q => k (some (.inr (.inl q.1))) q.2))))
def kp_8008_2 (Q : Nat → Nat → Int32 → Int32 → px_M → Prop) : px_P := fun ls st τ => st = [] ∧ kN ls (fun x0 ls => kN ls (fun x1 ls => kI ls (fun x2 ls => kI ls (fun x3 ls => kE ls (Q x0 x1 x2 x3 τ)))))
theorem kq_8008_2 {C : px_C} {k : Option px_V → px_M → Prop} {Q : Nat → Nat → Int32 → Int32 → px_M → Prop} (H : ∀ (x0 : Nat) (x1 : Nat) (x2 : Int32) (x3 : Int32) (τ : px_M), Q x0 x1 x2 x3 τ → px_W C k 2 [some (.inr (.inr (some x0))), some (.inr (.inr (some x1))), some (.inl x2), some (.inl x3)] [] τ) : ∀ ls st τ, kp_8008_2 Q ls st τ → px_W C k 2 ls st τ := by
  intro ls st τ hz
  obtain ⟨ez, h0⟩ := hz
  obtain ⟨x0, l0, e0, h1⟩ := kN_sp h0
  obtain ⟨x1, l1, e1, h2⟩ := kN_sp h1
  obtain ⟨x2, l2, e2, h3⟩ := kI_sp h2
  obtain ⟨x3, l3, e3, h4⟩ := kI_sp h3
  obtain ⟨ey, hy⟩ := kE_sp h4
  subst ez
  subst ey
  subst e3
  subst e2
  subst e1
  subst e0
  exact H x0 x1 x2 x3 τ hy
set_option maxHeartbeats 4000000 in
set_option maxRecDepth 100000 in
theorem rl_8008_2 {C : px_C} (hn : ((px_tb C).map Prod.fst).Nodup) {h : Nat} (hh : 29 ≤ h) (hC : px_ok C pn_i8008 h) {k : Option px_V → px_M → Prop} {x0 : Nat} {x1 : Nat} {x2 : Int32} : ∀ s : Int32 × px_M, oW (f_8008_2 (px_tb C) x0 x1 x2 s.1 s.2) (fun q => k (some (.inr (.inl q.1))) q.2) → (fun s : Int32 × px_M => px_W C k 2 [some (.inr (.inr (some x0))), some (.inr (.inr (some x1))), some (.inl x2), some (.inl s.1)] [] s.2) s := by
  intro s h0
  refine lpO_sound (P := (fun s : Int32 × px_M => px_W C k 2 [some (.inr (.inr (some x0))), some (.inr (.inr (some x1))), some (.inl x2), some (.inl s.1)] [] s.2)) (fun s hs => ?_) h0
  obtain ⟨x3, σ⟩ := s
  refine px_runG (h - 1) ck_8008 [(8009, Sg_8009 (f_8009 (px_tb C) 24)), (11004, Sg_11004 (f_11004 (px_tb C)))] [(2, kp_8008_2 (fun y0 y1 y2 y3 τ => y0 = x0 ∧ y1 = x1 ∧ y2 = x2 ∧ (fun s : Int32 × px_M => px_W C k 2 [some (.inr (.inr (some x0))), some (.inr (.inr (some x1))), some (.inl x2), some (.inl s.1)] [] s.2) (y3, τ)))] 80 hC (px_sp1 (mf_8009 hn (by omega)) (px_sp1 (mf_11004 hn (by omega)) px_nosp)) (by omega) (px_cut1 (kq_8008_2 (fun y0 y1 y2 y3 τ hq => by obtain ⟨rfl, rfl, rfl, hq⟩ := hq; exact hq)) px_nocut) (fun G Jf hG hJf => ?_)
  simp only [F_8008_2, oW_some, oW_none, oW_bind, oW_map, oW_ite, oW_bn, oW_gd, oW_oA, Sum.elim_inl, Sum.elim_inr, oW_and, true_and, and_true, false_and, and_false, true_or, or_true, false_or, or_false, and_self, or_self, not_false_eq_true, not_true_eq_false, false_implies, forall_const, true_implies, eq_self, ↓reduceIte] at hs
  simp only [↓hG, ↓hJf, ↓px_vc, ↓px_ex, ↓px_jp, ↓px_gi, ↓px_gl, ↓px_gr, ↓px_s1, ↓px_s2, ↓px_nl, ↓px_i1, ↓px_l1, ↓px_r1_o, ↓px_q1, ↓px_i2, ↓px_l2, ↓px_il, ↓px_d0, ↓px_d1, ↓px_d2, ↓px_pop, px_sz, ↓px_sp, ↓px_rd, ↓px_pt, ↓px_rok, ↓px_rv_o, ↓px_fill, ↓px_sl, ↓px_sw, ↓pn_SW, lc_lt, lc_ge, lc_gt, lc_le, lc_eq, ↓reduceIte, Nat.reduceEqDiff, Nat.reduceLeDiff, Nat.reduceAdd, Nat.reduceSub, reduceCtorEq, List.length_cons, List.length_nil, Option.toList_some, Option.toList_none, List.cons_append, List.nil_append, true_and, and_true, false_and, and_false, true_or, or_true, false_or, or_false, and_self, or_self, not_false_eq_true, not_true_eq_false, false_implies, forall_const, true_implies, eq_self, ↓kI_s, ↓kJ_s, ↓kN_s, ↓kO_s, ↓kZ_s, ↓kE_s, oW_and, ↓bk_8008, ↓pn_i8008, oW_some, oW_none, oW_bind, oW_map, oW_ite, oW_bn, oW_gd, oW_oA, Sum.elim_inl, Sum.elim_inr, ↓Sg_8009, ↓Sg_11004, ↓kp_8008_2]
  exact hs
set_option maxHeartbeats 4000000 in
set_option maxRecDepth 100000 in
theorem mf_8008 {tab : px_T} (hn : (tab.map Prod.fst).Nodup) {h : Nat} (hh : 29 ≤ h) : px_Ok tab pn_i8008 h (Sg_8008 (f_8008 tab)) := by
  refine px_mth hn (by decide +kernel) (fun av σ k hS => ?_) (fun C hT hC av σ k hS => ?_)
  · obtain ⟨x0, av0, e0, h0⟩ := px_r1_spec hS
    obtain ⟨x1, av1, e1, h1⟩ := px_r1_spec h0
    obtain ⟨x2, av2, e2, h2⟩ := px_i1_spec h1
    obtain ⟨ez, hz⟩ := h2
    subst ez
    subst e2
    subst e1
    subst e0
    exact Nat.le_of_ble_eq_true rfl
  · obtain ⟨x0, av0, e0, h0⟩ := px_r1_spec hS
    obtain ⟨x1, av1, e1, h1⟩ := px_r1_spec h0
    obtain ⟨x2, av2, e2, h2⟩ := px_i1_spec h1
    obtain ⟨ez, hz⟩ := h2
    subst ez
    subst e2
    subst e1
    subst e0
    subst hT
    refine px_runG (h - 1) ck_8008 [] [(2, kp_8008_2 (fun y0 y1 y2 y3 τ => oW (f_8008_2 (px_tb C) y0 y1 y2 y3 τ) (fun q => k (some (.inr (.inl q.1))) q.2)))] 80 hC px_nosp (by omega) (px_cut1 (kq_8008_2 (fun y0 y1 y2 y3 τ hq => by exact rl_8008_2 hn (by omega) hC (y3, τ) hq)) px_nocut) (fun G Jf hG hJf => ?_)
    simp only [f_8008, oW_some, oW_none, oW_bind, oW_map, oW_ite, oW_bn, oW_gd, oW_oA, Sum.elim_inl, Sum.elim_inr, oW_and, true_and, and_true, false_and, and_false, true_or, or_true, false_or, or_false, and_self, or_self, not_false_eq_true, not_true_eq_false, false_implies, forall_const, true_implies, eq_self, ↓reduceIte] at hz
    simp only [↓hG, ↓hJf, ↓px_vc, ↓px_ex, ↓px_jp, ↓px_gi, ↓px_gl, ↓px_gr, ↓px_s1, ↓px_s2, ↓px_nl, ↓px_i1, ↓px_l1, ↓px_r1_o, ↓px_q1, ↓px_i2, ↓px_l2, ↓px_il, ↓px_d0, ↓px_d1, ↓px_d2, ↓px_pop, px_sz, ↓px_sp, ↓px_rd, ↓px_pt, ↓px_rok, ↓px_rv_o, ↓px_fill, ↓px_sl, ↓px_sw, ↓pn_SW, lc_lt, lc_ge, lc_gt, lc_le, lc_eq, ↓reduceIte, Nat.reduceEqDiff, Nat.reduceLeDiff, Nat.reduceAdd, Nat.reduceSub, reduceCtorEq, List.length_cons, List.length_nil, Option.toList_some, Option.toList_none, List.cons_append, List.nil_append, true_and, and_true, false_and, and_false, true_or, or_true, false_or, or_false, and_self, or_self, not_false_eq_true, not_true_eq_false, false_implies, forall_const, true_implies, eq_self, ↓kI_s, ↓kJ_s, ↓kN_s, ↓kO_s, ↓kZ_s, ↓kE_s, oW_and, ↓bk_8008, ↓pn_i8008, oW_some, oW_none, oW_bind, oW_map, oW_ite, oW_bn, oW_gd, oW_oA, Sum.elim_inl, Sum.elim_inr, ↓kp_8008_2]
    exact hz
/-- NoThree$Reader.hasRoomFor(I)Z -/
noncomputable def f_9002 (tab : px_T) (σ : px_M) (x0 : Nat) (x1 : Int32) : Option (Int32) := gd (px_obj (px_lay tab x0) 9) (if (nI 900) < (((σ).1 x0 0) + x1) then (some ((nI 0))) else (some ((nI 1))))
def Sg_9002 (g : px_M → Nat → Int32 → Option (Int32)) : px_S := fun av σ k => px_r1 av (fun x0 av => px_i1 av (fun x1 av => av = [] ∧ oW (g σ x0 x1) (fun r => k (some (.inl r)) σ)))
set_option maxHeartbeats 4000000 in
set_option maxRecDepth 100000 in
theorem mf_9002 {tab : px_T} (hn : (tab.map Prod.fst).Nodup) {h : Nat} (hh : 1 ≤ h) : px_Ok tab pn_i9002 h (Sg_9002 (f_9002 tab)) := by
  refine px_mth hn (by decide +kernel) (fun av σ k hS => ?_) (fun C hT hC av σ k hS => ?_)
  · obtain ⟨x0, av0, e0, h0⟩ := px_r1_spec hS
    obtain ⟨x1, av1, e1, h1⟩ := px_i1_spec h0
    obtain ⟨ez, hz⟩ := h1
    subst ez
    subst e1
    subst e0
    exact Nat.le_of_ble_eq_true rfl
  · obtain ⟨x0, av0, e0, h0⟩ := px_r1_spec hS
    obtain ⟨x1, av1, e1, h1⟩ := px_i1_spec h0
    obtain ⟨ez, hz⟩ := h1
    subst ez
    subst e1
    subst e0
    subst hT
    refine px_runG (h - 1) ck_9002 [] [] 80 hC px_nosp (by omega) px_nocut (fun G Jf hG hJf => ?_)
    simp only [f_9002, oW_some, oW_none, oW_bind, oW_map, oW_ite, oW_bn, oW_gd, oW_oA, Sum.elim_inl, Sum.elim_inr, oW_and, true_and, and_true, false_and, and_false, true_or, or_true, false_or, or_false, and_self, or_self, not_false_eq_true, not_true_eq_false, false_implies, forall_const, true_implies, eq_self, ↓reduceIte] at hz
    simp only [↓hG, ↓hJf, ↓px_vc, ↓px_ex, ↓px_jp, ↓px_gi, ↓px_gl, ↓px_gr, ↓px_s1, ↓px_s2, ↓px_nl, ↓px_i1, ↓px_l1, ↓px_r1_o, ↓px_q1, ↓px_i2, ↓px_l2, ↓px_il, ↓px_d0, ↓px_d1, ↓px_d2, ↓px_pop, px_sz, ↓px_sp, ↓px_rd, ↓px_pt, ↓px_rok, ↓px_rv_o, ↓px_fill, ↓px_sl, ↓px_sw, ↓pn_SW, lc_lt, lc_ge, lc_gt, lc_le, lc_eq, ↓reduceIte, Nat.reduceEqDiff, Nat.reduceLeDiff, Nat.reduceAdd, Nat.reduceSub, reduceCtorEq, List.length_cons, List.length_nil, Option.toList_some, Option.toList_none, List.cons_append, List.nil_append, true_and, and_true, false_and, and_false, true_or, or_true, false_or, or_false, and_self, or_self, not_false_eq_true, not_true_eq_false, false_implies, forall_const, true_implies, eq_self, ↓kI_s, ↓kJ_s, ↓kN_s, ↓kO_s, ↓kZ_s, ↓kE_s, oW_and, ↓bk_9002, ↓pn_i9002, oW_some, oW_none, oW_bind, oW_map, oW_ite, oW_bn, oW_gd, oW_oA, Sum.elim_inl, Sum.elim_inr]
    exact hz
/-- NoThree$Reader.append(I)V -/
noncomputable def F_9003_3 (tab : px_T) (x0 : Nat) (x1 : Int32) (x2 : Int32) (σ : px_M) : Option ((Int32 × px_M) ⊕ (px_M)) := if x2 < nI 0 then (some (.inr (σ))) else (gd (px_obj (px_lay tab x0) 9) (if ((σ).1 x0 0) < nI 0 then (some (.inl (((x2 + (-8)), σ)))) else (gd (px_obj (px_lay tab x0) 9) (if (nI 900) ≤ ((σ).1 x0 0) then (some (.inl (((x2 + (-8)), σ)))) else (gd (px_obj (px_lay tab x0) 9) (gd (px_obj (px_lay tab x0) 9) ((((σ).2.2 x0 4)).bind fun n1 => oA (px_lay tab n1) fun t2 l3 => gd ((t2 = 1 ∧ (((x1 >>> (x2 &&& 31))).toInt8.toInt32).toInt8.toInt32 = ((x1 >>> (x2 &&& 31))).toInt8.toInt32) ∨ (t2 = 2 ∧ (((x1 >>> (x2 &&& 31))).toInt8.toInt32 = nI 0 ∨ ((x1 >>> (x2 &&& 31))).toInt8.toInt32 = nI 1))) (gd (vp_in ((σ).1 x0 0) l3) (gd (px_obj (px_lay tab x0) 9) (gd (px_obj (px_lay tab x0) 9) (some (.inl (((x2 + (-8)), (px_wi (px_wi σ n1 (((σ).1 x0 0)).toNatClampNeg ((x1 >>> (x2 &&& 31))).toInt8.toInt32) x0 0 ((((px_wi σ n1 (((σ).1 x0 0)).toNatClampNeg ((x1 >>> (x2 &&& 31))).toInt8.toInt32)).1 x0 0) + (nI 1)))))))))))))))))
noncomputable def f_9003_3 (tab : px_T) (x0 : Nat) (x1 : Int32) (x2 : Int32) (σ : px_M) : Option (px_M) := lpO (fun s : Int32 × px_M => F_9003_3 tab x0 x1 s.1 s.2) (x2, σ)
theorem f_9003_3_eq (tab : px_T) (x0 : Nat) (x1 : Int32) (x2 : Int32) (σ : px_M) : f_9003_3 tab x0 x1 x2 σ = (F_9003_3 tab x0 x1 x2 σ).bind (Sum.elim (fun s => f_9003_3 tab x0 x1 s.1 s.2) some) := lpO_eq _ _
noncomputable def f_9003 (tab : px_T) (σ : px_M) (x0 : Nat) (x1 : Int32) : Option (px_M) := f_9003_3 tab x0 x1 ((nI 24)) σ
def Sg_9003 (g : px_M → Nat → Int32 → Option (px_M)) : px_S := fun av σ k => px_r1 av (fun x0 av => px_i1 av (fun x1 av => av = [] ∧ oW (g σ x0 x1) (fun τ => k none τ)))
def kp_9003_3 (Q : Nat → Int32 → Int32 → px_M → Prop) : px_P := fun ls st τ => st = [] ∧ kN ls (fun x0 ls => kI ls (fun x1 ls => kI ls (fun x2 ls => kE ls (Q x0 x1 x2 τ))))
theorem kq_9003_3 {C : px_C} {k : Option px_V → px_M → Prop} {Q : Nat → Int32 → Int32 → px_M → Prop} (H : ∀ (x0 : Nat) (x1 : Int32) (x2 : Int32) (τ : px_M), Q x0 x1 x2 τ → px_W C k 3 [some (.inr (.inr (some x0))), some (.inl x1), some (.inl x2)] [] τ) : ∀ ls st τ, kp_9003_3 Q ls st τ → px_W C k 3 ls st τ := by
  intro ls st τ hz
  obtain ⟨ez, h0⟩ := hz
  obtain ⟨x0, l0, e0, h1⟩ := kN_sp h0
  obtain ⟨x1, l1, e1, h2⟩ := kI_sp h1
  obtain ⟨x2, l2, e2, h3⟩ := kI_sp h2
  obtain ⟨ey, hy⟩ := kE_sp h3
  subst ez
  subst ey
  subst e2
  subst e1
  subst e0
  exact H x0 x1 x2 τ hy
set_option maxHeartbeats 4000000 in
set_option maxRecDepth 100000 in
theorem rl_9003_3 {C : px_C} (hn : ((px_tb C).map Prod.fst).Nodup) {h : Nat} (hh : 1 ≤ h) (hC : px_ok C pn_i9003 h) {k : Option px_V → px_M → Prop} {x0 : Nat} {x1 : Int32} : ∀ s : Int32 × px_M, oW (f_9003_3 (px_tb C) x0 x1 s.1 s.2) (fun τ => k none τ) → (fun s : Int32 × px_M => px_W C k 3 [some (.inr (.inr (some x0))), some (.inl x1), some (.inl s.1)] [] s.2) s := by
  intro s h0
  refine lpO_sound (P := (fun s : Int32 × px_M => px_W C k 3 [some (.inr (.inr (some x0))), some (.inl x1), some (.inl s.1)] [] s.2)) (fun s hs => ?_) h0
  obtain ⟨x2, σ⟩ := s
  refine px_runG (h - 1) ck_9003 [] [(3, kp_9003_3 (fun y0 y1 y2 τ => y0 = x0 ∧ y1 = x1 ∧ (fun s : Int32 × px_M => px_W C k 3 [some (.inr (.inr (some x0))), some (.inl x1), some (.inl s.1)] [] s.2) (y2, τ)))] 80 hC px_nosp (by omega) (px_cut1 (kq_9003_3 (fun y0 y1 y2 τ hq => by obtain ⟨rfl, rfl, hq⟩ := hq; exact hq)) px_nocut) (fun G Jf hG hJf => ?_)
  simp only [F_9003_3, oW_some, oW_none, oW_bind, oW_map, oW_ite, oW_bn, oW_gd, oW_oA, Sum.elim_inl, Sum.elim_inr, oW_and, true_and, and_true, false_and, and_false, true_or, or_true, false_or, or_false, and_self, or_self, not_false_eq_true, not_true_eq_false, false_implies, forall_const, true_implies, eq_self, ↓reduceIte] at hs
  simp only [↓hG, ↓hJf, ↓px_vc, ↓px_ex, ↓px_jp, ↓px_gi, ↓px_gl, ↓px_gr, ↓px_s1, ↓px_s2, ↓px_nl, ↓px_i1, ↓px_l1, ↓px_r1_o, ↓px_q1, ↓px_i2, ↓px_l2, ↓px_il, ↓px_d0, ↓px_d1, ↓px_d2, ↓px_pop, px_sz, ↓px_sp, ↓px_rd, ↓px_pt, ↓px_rok, ↓px_rv_o, ↓px_fill, ↓px_sl, ↓px_sw, ↓pn_SW, lc_lt, lc_ge, lc_gt, lc_le, lc_eq, ↓reduceIte, Nat.reduceEqDiff, Nat.reduceLeDiff, Nat.reduceAdd, Nat.reduceSub, reduceCtorEq, List.length_cons, List.length_nil, Option.toList_some, Option.toList_none, List.cons_append, List.nil_append, true_and, and_true, false_and, and_false, true_or, or_true, false_or, or_false, and_self, or_self, not_false_eq_true, not_true_eq_false, false_implies, forall_const, true_implies, eq_self, ↓kI_s, ↓kJ_s, ↓kN_s, ↓kO_s, ↓kZ_s, ↓kE_s, oW_and, ↓bk_9003, ↓pn_i9003, oW_some, oW_none, oW_bind, oW_map, oW_ite, oW_bn, oW_gd, oW_oA, Sum.elim_inl, Sum.elim_inr, ↓kp_9003_3]
  exact hs
set_option maxHeartbeats 4000000 in
set_option maxRecDepth 100000 in
theorem mf_9003 {tab : px_T} (hn : (tab.map Prod.fst).Nodup) {h : Nat} (hh : 1 ≤ h) : px_Ok tab pn_i9003 h (Sg_9003 (f_9003 tab)) := by
  refine px_mth hn (by decide +kernel) (fun av σ k hS => ?_) (fun C hT hC av σ k hS => ?_)
  · obtain ⟨x0, av0, e0, h0⟩ := px_r1_spec hS
    obtain ⟨x1, av1, e1, h1⟩ := px_i1_spec h0
    obtain ⟨ez, hz⟩ := h1
    subst ez
    subst e1
    subst e0
    exact Nat.le_of_ble_eq_true rfl
  · obtain ⟨x0, av0, e0, h0⟩ := px_r1_spec hS
    obtain ⟨x1, av1, e1, h1⟩ := px_i1_spec h0
    obtain ⟨ez, hz⟩ := h1
    subst ez
    subst e1
    subst e0
    subst hT
    refine px_runG (h - 1) ck_9003 [] [(3, kp_9003_3 (fun y0 y1 y2 τ => oW (f_9003_3 (px_tb C) y0 y1 y2 τ) (fun τ => k none τ)))] 80 hC px_nosp (by omega) (px_cut1 (kq_9003_3 (fun y0 y1 y2 τ hq => by exact rl_9003_3 hn (by omega) hC (y2, τ) hq)) px_nocut) (fun G Jf hG hJf => ?_)
    simp only [f_9003, oW_some, oW_none, oW_bind, oW_map, oW_ite, oW_bn, oW_gd, oW_oA, Sum.elim_inl, Sum.elim_inr, oW_and, true_and, and_true, false_and, and_false, true_or, or_true, false_or, or_false, and_self, or_self, not_false_eq_true, not_true_eq_false, false_implies, forall_const, true_implies, eq_self, ↓reduceIte] at hz
    simp only [↓hG, ↓hJf, ↓px_vc, ↓px_ex, ↓px_jp, ↓px_gi, ↓px_gl, ↓px_gr, ↓px_s1, ↓px_s2, ↓px_nl, ↓px_i1, ↓px_l1, ↓px_r1_o, ↓px_q1, ↓px_i2, ↓px_l2, ↓px_il, ↓px_d0, ↓px_d1, ↓px_d2, ↓px_pop, px_sz, ↓px_sp, ↓px_rd, ↓px_pt, ↓px_rok, ↓px_rv_o, ↓px_fill, ↓px_sl, ↓px_sw, ↓pn_SW, lc_lt, lc_ge, lc_gt, lc_le, lc_eq, ↓reduceIte, Nat.reduceEqDiff, Nat.reduceLeDiff, Nat.reduceAdd, Nat.reduceSub, reduceCtorEq, List.length_cons, List.length_nil, Option.toList_some, Option.toList_none, List.cons_append, List.nil_append, true_and, and_true, false_and, and_false, true_or, or_true, false_or, or_false, and_self, or_self, not_false_eq_true, not_true_eq_false, false_implies, forall_const, true_implies, eq_self, ↓kI_s, ↓kJ_s, ↓kN_s, ↓kO_s, ↓kZ_s, ↓kE_s, oW_and, ↓bk_9003, ↓pn_i9003, oW_some, oW_none, oW_bind, oW_map, oW_ite, oW_bn, oW_gd, oW_oA, Sum.elim_inl, Sum.elim_inr, ↓kp_9003_3]
    exact hz
/-- NoThree$Reader.byteAt(I)I -/
noncomputable def f_9006 (tab : px_T) (σ : px_M) (x0 : Nat) (x1 : Int32) : Option (Int32) := if x1 < nI 0 then (some ((nI 0))) else (gd (px_obj (px_lay tab x0) 9) (if ((σ).1 x0 7) ≤ x1 then (some ((nI 0))) else (gd (px_obj (px_lay tab x0) 9) ((((σ).2.2 x0 4)).bind fun n1 => oA (px_lay tab n1) fun t2 l3 => gd (t2 = 1 ∨ t2 = 2) (gd (vp_in x1 l3) (some (((σ).1 n1 (x1).toNatClampNeg))))))))
def Sg_9006 (g : px_M → Nat → Int32 → Option (Int32)) : px_S := fun av σ k => px_r1 av (fun x0 av => px_i1 av (fun x1 av => av = [] ∧ oW (g σ x0 x1) (fun r => k (some (.inl r)) σ)))
set_option maxHeartbeats 4000000 in
set_option maxRecDepth 100000 in
theorem mf_9006 {tab : px_T} (hn : (tab.map Prod.fst).Nodup) {h : Nat} (hh : 1 ≤ h) : px_Ok tab pn_i9006 h (Sg_9006 (f_9006 tab)) := by
  refine px_mth hn (by decide +kernel) (fun av σ k hS => ?_) (fun C hT hC av σ k hS => ?_)
  · obtain ⟨x0, av0, e0, h0⟩ := px_r1_spec hS
    obtain ⟨x1, av1, e1, h1⟩ := px_i1_spec h0
    obtain ⟨ez, hz⟩ := h1
    subst ez
    subst e1
    subst e0
    exact Nat.le_of_ble_eq_true rfl
  · obtain ⟨x0, av0, e0, h0⟩ := px_r1_spec hS
    obtain ⟨x1, av1, e1, h1⟩ := px_i1_spec h0
    obtain ⟨ez, hz⟩ := h1
    subst ez
    subst e1
    subst e0
    subst hT
    refine px_runG (h - 1) ck_9006 [] [] 80 hC px_nosp (by omega) px_nocut (fun G Jf hG hJf => ?_)
    simp only [f_9006, oW_some, oW_none, oW_bind, oW_map, oW_ite, oW_bn, oW_gd, oW_oA, Sum.elim_inl, Sum.elim_inr, oW_and, true_and, and_true, false_and, and_false, true_or, or_true, false_or, or_false, and_self, or_self, not_false_eq_true, not_true_eq_false, false_implies, forall_const, true_implies, eq_self, ↓reduceIte] at hz
    simp only [↓hG, ↓hJf, ↓px_vc, ↓px_ex, ↓px_jp, ↓px_gi, ↓px_gl, ↓px_gr, ↓px_s1, ↓px_s2, ↓px_nl, ↓px_i1, ↓px_l1, ↓px_r1_o, ↓px_q1, ↓px_i2, ↓px_l2, ↓px_il, ↓px_d0, ↓px_d1, ↓px_d2, ↓px_pop, px_sz, ↓px_sp, ↓px_rd, ↓px_pt, ↓px_rok, ↓px_rv_o, ↓px_fill, ↓px_sl, ↓px_sw, ↓pn_SW, lc_lt, lc_ge, lc_gt, lc_le, lc_eq, ↓reduceIte, Nat.reduceEqDiff, Nat.reduceLeDiff, Nat.reduceAdd, Nat.reduceSub, reduceCtorEq, List.length_cons, List.length_nil, Option.toList_some, Option.toList_none, List.cons_append, List.nil_append, true_and, and_true, false_and, and_false, true_or, or_true, false_or, or_false, and_self, or_self, not_false_eq_true, not_true_eq_false, false_implies, forall_const, true_implies, eq_self, ↓kI_s, ↓kJ_s, ↓kN_s, ↓kO_s, ↓kZ_s, ↓kE_s, oW_and, ↓bk_9006, ↓pn_i9006, oW_some, oW_none, oW_bind, oW_map, oW_ite, oW_bn, oW_gd, oW_oA, Sum.elim_inl, Sum.elim_inr]
    exact hz
/-- NoThree$Reader.isBlank(I)Z -/
noncomputable def f_9007 (tab : px_T) (σ : px_M) (x0 : Nat) (x1 : Int32) : Option (Int32) := gd (px_obj (px_lay tab x0) 9) ((f_9006 tab σ x0 x1).bind fun r1 => if r1 = (nI 10) then (some ((nI 1))) else (gd (px_obj (px_lay tab x0) 9) ((f_9006 tab σ x0 x1).bind fun r2 => bn (r2 = (nI 32)) (some ((nI 0))) (some ((nI 1))))))
def Sg_9007 (g : px_M → Nat → Int32 → Option (Int32)) : px_S := fun av σ k => px_r1 av (fun x0 av => px_i1 av (fun x1 av => av = [] ∧ oW (g σ x0 x1) (fun r => k (some (.inl r)) σ)))
set_option maxHeartbeats 4000000 in
set_option maxRecDepth 100000 in
theorem mf_9007 {tab : px_T} (hn : (tab.map Prod.fst).Nodup) {h : Nat} (hh : 2 ≤ h) : px_Ok tab pn_i9007 h (Sg_9007 (f_9007 tab)) := by
  refine px_mth hn (by decide +kernel) (fun av σ k hS => ?_) (fun C hT hC av σ k hS => ?_)
  · obtain ⟨x0, av0, e0, h0⟩ := px_r1_spec hS
    obtain ⟨x1, av1, e1, h1⟩ := px_i1_spec h0
    obtain ⟨ez, hz⟩ := h1
    subst ez
    subst e1
    subst e0
    exact Nat.le_of_ble_eq_true rfl
  · obtain ⟨x0, av0, e0, h0⟩ := px_r1_spec hS
    obtain ⟨x1, av1, e1, h1⟩ := px_i1_spec h0
    obtain ⟨ez, hz⟩ := h1
    subst ez
    subst e1
    subst e0
    subst hT
    refine px_runG (h - 1) ck_9007 [(9006, Sg_9006 (f_9006 (px_tb C)))] [] 80 hC (px_sp1 (mf_9006 hn (by omega)) px_nosp) (by omega) px_nocut (fun G Jf hG hJf => ?_)
    simp only [f_9007, oW_some, oW_none, oW_bind, oW_map, oW_ite, oW_bn, oW_gd, oW_oA, Sum.elim_inl, Sum.elim_inr, oW_and, true_and, and_true, false_and, and_false, true_or, or_true, false_or, or_false, and_self, or_self, not_false_eq_true, not_true_eq_false, false_implies, forall_const, true_implies, eq_self, ↓reduceIte] at hz
    simp only [↓hG, ↓hJf, ↓px_vc, ↓px_ex, ↓px_jp, ↓px_gi, ↓px_gl, ↓px_gr, ↓px_s1, ↓px_s2, ↓px_nl, ↓px_i1, ↓px_l1, ↓px_r1_o, ↓px_q1, ↓px_i2, ↓px_l2, ↓px_il, ↓px_d0, ↓px_d1, ↓px_d2, ↓px_pop, px_sz, ↓px_sp, ↓px_rd, ↓px_pt, ↓px_rok, ↓px_rv_o, ↓px_fill, ↓px_sl, ↓px_sw, ↓pn_SW, lc_lt, lc_ge, lc_gt, lc_le, lc_eq, ↓reduceIte, Nat.reduceEqDiff, Nat.reduceLeDiff, Nat.reduceAdd, Nat.reduceSub, reduceCtorEq, List.length_cons, List.length_nil, Option.toList_some, Option.toList_none, List.cons_append, List.nil_append, true_and, and_true, false_and, and_false, true_or, or_true, false_or, or_false, and_self, or_self, not_false_eq_true, not_true_eq_false, false_implies, forall_const, true_implies, eq_self, ↓kI_s, ↓kJ_s, ↓kN_s, ↓kO_s, ↓kZ_s, ↓kE_s, oW_and, ↓bk_9007, ↓pn_i9007, oW_some, oW_none, oW_bind, oW_map, oW_ite, oW_bn, oW_gd, oW_oA, Sum.elim_inl, Sum.elim_inr, ↓Sg_9006]
    exact hz
/-- NoThree$Reader.isLetter(I)Z -/
noncomputable def f_9008 (tab : px_T) (σ : px_M) (x0 : Nat) (x1 : Int32) : Option (Int32) := gd (px_obj (px_lay tab x0) 9) ((f_9006 tab σ x0 x1).bind fun r1 => if r1 < (nI 97) then (some ((nI 0))) else (gd (px_obj (px_lay tab x0) 9) ((f_9006 tab σ x0 x1).bind fun r2 => if (nI 122) < r2 then (some ((nI 0))) else (some ((nI 1))))))
def Sg_9008 (g : px_M → Nat → Int32 → Option (Int32)) : px_S := fun av σ k => px_r1 av (fun x0 av => px_i1 av (fun x1 av => av = [] ∧ oW (g σ x0 x1) (fun r => k (some (.inl r)) σ)))
set_option maxHeartbeats 4000000 in
set_option maxRecDepth 100000 in
theorem mf_9008 {tab : px_T} (hn : (tab.map Prod.fst).Nodup) {h : Nat} (hh : 2 ≤ h) : px_Ok tab pn_i9008 h (Sg_9008 (f_9008 tab)) := by
  refine px_mth hn (by decide +kernel) (fun av σ k hS => ?_) (fun C hT hC av σ k hS => ?_)
  · obtain ⟨x0, av0, e0, h0⟩ := px_r1_spec hS
    obtain ⟨x1, av1, e1, h1⟩ := px_i1_spec h0
    obtain ⟨ez, hz⟩ := h1
    subst ez
    subst e1
    subst e0
    exact Nat.le_of_ble_eq_true rfl
  · obtain ⟨x0, av0, e0, h0⟩ := px_r1_spec hS
    obtain ⟨x1, av1, e1, h1⟩ := px_i1_spec h0
    obtain ⟨ez, hz⟩ := h1
    subst ez
    subst e1
    subst e0
    subst hT
    refine px_runG (h - 1) ck_9008 [(9006, Sg_9006 (f_9006 (px_tb C)))] [] 80 hC (px_sp1 (mf_9006 hn (by omega)) px_nosp) (by omega) px_nocut (fun G Jf hG hJf => ?_)
    simp only [f_9008, oW_some, oW_none, oW_bind, oW_map, oW_ite, oW_bn, oW_gd, oW_oA, Sum.elim_inl, Sum.elim_inr, oW_and, true_and, and_true, false_and, and_false, true_or, or_true, false_or, or_false, and_self, or_self, not_false_eq_true, not_true_eq_false, false_implies, forall_const, true_implies, eq_self, ↓reduceIte] at hz
    simp only [↓hG, ↓hJf, ↓px_vc, ↓px_ex, ↓px_jp, ↓px_gi, ↓px_gl, ↓px_gr, ↓px_s1, ↓px_s2, ↓px_nl, ↓px_i1, ↓px_l1, ↓px_r1_o, ↓px_q1, ↓px_i2, ↓px_l2, ↓px_il, ↓px_d0, ↓px_d1, ↓px_d2, ↓px_pop, px_sz, ↓px_sp, ↓px_rd, ↓px_pt, ↓px_rok, ↓px_rv_o, ↓px_fill, ↓px_sl, ↓px_sw, ↓pn_SW, lc_lt, lc_ge, lc_gt, lc_le, lc_eq, ↓reduceIte, Nat.reduceEqDiff, Nat.reduceLeDiff, Nat.reduceAdd, Nat.reduceSub, reduceCtorEq, List.length_cons, List.length_nil, Option.toList_some, Option.toList_none, List.cons_append, List.nil_append, true_and, and_true, false_and, and_false, true_or, or_true, false_or, or_false, and_self, or_self, not_false_eq_true, not_true_eq_false, false_implies, forall_const, true_implies, eq_self, ↓kI_s, ↓kJ_s, ↓kN_s, ↓kO_s, ↓kZ_s, ↓kE_s, oW_and, ↓bk_9008, ↓pn_i9008, oW_some, oW_none, oW_bind, oW_map, oW_ite, oW_bn, oW_gd, oW_oA, Sum.elim_inl, Sum.elim_inr, ↓Sg_9006]
    exact hz
