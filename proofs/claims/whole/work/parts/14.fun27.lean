/-! shallow functions, printed by wip/whole/decomp.py -/
/-- NoThree$Reader.readSum(I)Z -/
noncomputable def f_9030_95 (tab : px_T) (g9030 : px_M → Nat → Int32 → Option (Int32 × px_M)) (g9031 : px_M → Nat → Int32 → Option (Int32 × px_M)) (g9032 : px_M → Nat → Int32 → Option (Int32 × px_M)) (σ : px_M) : Option (Int32 × px_M) := some (((nI 1), σ))
noncomputable def f_9030_52 (tab : px_T) (g9030 : px_M → Nat → Int32 → Option (Int32 × px_M)) (g9031 : px_M → Nat → Int32 → Option (Int32 × px_M)) (g9032 : px_M → Nat → Int32 → Option (Int32 × px_M)) (σ : px_M) (x0 : Nat) (x1 : Int32) (x2 : Int32) (x3 : Int32) : Option ((Int32 × px_M) ⊕ (Int32 × px_M)) := gd (px_obj (px_lay tab x0) 9) ((f_9015 tab σ x0).bind fun q1 => gd (px_obj (px_lay tab x0) 9) ((g9031 q1 x0 x1).bind fun q2 => bn (q2.1 = nI 0) (gd (px_obj (px_lay tab x0) 9) ((((q2.2).2.2 x0 3)).bind fun n3 => gd (px_obj (px_lay tab n3) 1) (if x3 = nI 0 then ((((q2.2).2.2 n3 1)).bind fun n4 => gd (px_obj (px_lay tab n4) 10) ((f_10004 tab q2.2 n4 ((nI 2001))).bind fun q5 => some (.inl (((x2 + (nI 1)), q5))))) else ((((q2.2).2.2 n3 1)).bind fun n6 => gd (px_obj (px_lay tab n6) 10) ((f_10004 tab q2.2 n6 ((nI 2000))).bind fun q7 => some (.inl (((x2 + (nI 1)), q7)))))))) (some (.inr (((nI 0), q2.2))))))
noncomputable def F_9030_12 (tab : px_T) (g9030 : px_M → Nat → Int32 → Option (Int32 × px_M)) (g9031 : px_M → Nat → Int32 → Option (Int32 × px_M)) (g9032 : px_M → Nat → Int32 → Option (Int32 × px_M)) (x0 : Nat) (x1 : Int32) (x2 : Int32) (σ : px_M) : Option ((Int32 × px_M) ⊕ (Int32 × px_M)) := if (nI 900) ≤ x2 then (Option.map Sum.inr (f_9030_95 tab g9030 g9031 g9032 σ)) else (gd (px_obj (px_lay tab x0) 9) (bn (((σ).1 x0 9) = (nI 4043)) (bn ((nI 0) = nI 0) (f_9030_52 tab g9030 g9031 g9032 σ x0 x1 x2 ((nI 0))) (gd (px_obj (px_lay tab x0) 9) (if ((σ).1 x0 9) = (nI 4045) then (f_9030_52 tab g9030 g9031 g9032 σ x0 x1 x2 ((nI 0))) else (Option.map Sum.inr (f_9030_95 tab g9030 g9031 g9032 σ))))) (bn ((nI 1) = nI 0) (f_9030_52 tab g9030 g9031 g9032 σ x0 x1 x2 ((nI 1))) (gd (px_obj (px_lay tab x0) 9) (if ((σ).1 x0 9) = (nI 4045) then (f_9030_52 tab g9030 g9031 g9032 σ x0 x1 x2 ((nI 1))) else (Option.map Sum.inr (f_9030_95 tab g9030 g9031 g9032 σ)))))))
noncomputable def f_9030_12 (tab : px_T) (g9030 : px_M → Nat → Int32 → Option (Int32 × px_M)) (g9031 : px_M → Nat → Int32 → Option (Int32 × px_M)) (g9032 : px_M → Nat → Int32 → Option (Int32 × px_M)) (x0 : Nat) (x1 : Int32) (x2 : Int32) (σ : px_M) : Option (Int32 × px_M) := lpO (fun s : Int32 × px_M => F_9030_12 tab g9030 g9031 g9032 x0 x1 s.1 s.2) (x2, σ)
theorem f_9030_12_eq (tab : px_T) (g9030 : px_M → Nat → Int32 → Option (Int32 × px_M)) (g9031 : px_M → Nat → Int32 → Option (Int32 × px_M)) (g9032 : px_M → Nat → Int32 → Option (Int32 × px_M)) (x0 : Nat) (x1 : Int32) (x2 : Int32) (σ : px_M) : f_9030_12 tab g9030 g9031 g9032 x0 x1 x2 σ = (F_9030_12 tab g9030 g9031 g9032 x0 x1 x2 σ).bind (Sum.elim (fun s => f_9030_12 tab g9030 g9031 g9032 x0 x1 s.1 s.2) some) := lpO_eq _ _
noncomputable def F_9030 (tab : px_T) (g9030 : px_M → Nat → Int32 → Option (Int32 × px_M)) (g9031 : px_M → Nat → Int32 → Option (Int32 × px_M)) (g9032 : px_M → Nat → Int32 → Option (Int32 × px_M)) (σ : px_M) (x0 : Nat) (x1 : Int32) : Option (Int32 × px_M) := gd (px_obj (px_lay tab x0) 9) ((g9031 σ x0 x1).bind fun q1 => bn (q1.1 = nI 0) (f_9030_12 tab g9030 g9031 g9032 x0 x1 ((nI 0)) q1.2) (some (((nI 0), q1.2))))
def Sg_9030 (g : px_M → Nat → Int32 → Option (Int32 × px_M)) : px_S := fun av σ k => px_r1 av (fun x0 av => px_i1 av (fun x1 av => av = [] ∧ oW (g σ x0 x1) (fun q => k (some (.inl q.1)) q.2)))
def kp_9030_95 (Q : px_M → Prop) : px_P := fun ls st τ => st = [] ∧ kZ ls (fun ls => kZ ls (fun ls => kZ ls (fun ls => kZ ls (fun ls => kE ls (Q τ)))))
theorem kq_9030_95 {C : px_C} {k : Option px_V → px_M → Prop} {Q : px_M → Prop} (H : ∀ (τ : px_M), Q τ → ∀ (z0 : Option px_V) (z1 : Option px_V) (z2 : Option px_V) (z3 : Option px_V), px_W C k 95 [z0, z1, z2, z3] [] τ) : ∀ ls st τ, kp_9030_95 Q ls st τ → px_W C k 95 ls st τ := by
  intro ls st τ hz
  obtain ⟨ez, h0⟩ := hz
  obtain ⟨z0, l0, e0, h1⟩ := kZ_sp h0
  obtain ⟨z1, l1, e1, h2⟩ := kZ_sp h1
  obtain ⟨z2, l2, e2, h3⟩ := kZ_sp h2
  obtain ⟨z3, l3, e3, h4⟩ := kZ_sp h3
  obtain ⟨ey, hy⟩ := kE_sp h4
  subst ez
  subst ey
  subst e3
  subst e2
  subst e1
  subst e0
  exact H τ hy z0 z1 z2 z3
def kp_9030_52 (Q : Nat → Int32 → Int32 → Int32 → px_M → Prop) : px_P := fun ls st τ => st = [] ∧ kN ls (fun x0 ls => kI ls (fun x1 ls => kI ls (fun x2 ls => kI ls (fun x3 ls => kE ls (Q x0 x1 x2 x3 τ)))))
theorem kq_9030_52 {C : px_C} {k : Option px_V → px_M → Prop} {Q : Nat → Int32 → Int32 → Int32 → px_M → Prop} (H : ∀ (x0 : Nat) (x1 : Int32) (x2 : Int32) (x3 : Int32) (τ : px_M), Q x0 x1 x2 x3 τ → px_W C k 52 [some (.inr (.inr (some x0))), some (.inl x1), some (.inl x2), some (.inl x3)] [] τ) : ∀ ls st τ, kp_9030_52 Q ls st τ → px_W C k 52 ls st τ := by
  intro ls st τ hz
  obtain ⟨ez, h0⟩ := hz
  obtain ⟨x0, l0, e0, h1⟩ := kN_sp h0
  obtain ⟨x1, l1, e1, h2⟩ := kI_sp h1
  obtain ⟨x2, l2, e2, h3⟩ := kI_sp h2
  obtain ⟨x3, l3, e3, h4⟩ := kI_sp h3
  obtain ⟨ey, hy⟩ := kE_sp h4
  subst ez
  subst ey
  subst e3
  subst e2
  subst e1
  subst e0
  exact H x0 x1 x2 x3 τ hy
def kp_9030_12 (Q : Nat → Int32 → Int32 → px_M → Prop) : px_P := fun ls st τ => st = [] ∧ kN ls (fun x0 ls => kI ls (fun x1 ls => kI ls (fun x2 ls => kZ ls (fun ls => kE ls (Q x0 x1 x2 τ)))))
theorem kq_9030_12 {C : px_C} {k : Option px_V → px_M → Prop} {Q : Nat → Int32 → Int32 → px_M → Prop} (H : ∀ (x0 : Nat) (x1 : Int32) (x2 : Int32) (τ : px_M), Q x0 x1 x2 τ → ∀ (z3 : Option px_V), px_W C k 12 [some (.inr (.inr (some x0))), some (.inl x1), some (.inl x2), z3] [] τ) : ∀ ls st τ, kp_9030_12 Q ls st τ → px_W C k 12 ls st τ := by
  intro ls st τ hz
  obtain ⟨ez, h0⟩ := hz
  obtain ⟨x0, l0, e0, h1⟩ := kN_sp h0
  obtain ⟨x1, l1, e1, h2⟩ := kI_sp h1
  obtain ⟨x2, l2, e2, h3⟩ := kI_sp h2
  obtain ⟨z3, l3, e3, h4⟩ := kZ_sp h3
  obtain ⟨ey, hy⟩ := kE_sp h4
  subst ez
  subst ey
  subst e3
  subst e2
  subst e1
  subst e0
  exact H x0 x1 x2 τ hy z3
set_option maxHeartbeats 4000000 in
set_option maxRecDepth 100000 in
theorem rl_9030_95 {C : px_C} (hn : ((px_tb C).map Prod.fst).Nodup) {h : Nat} (hh : 3 ≤ h) (hC : px_ok C pn_i9030 h) {g9030 : px_M → Nat → Int32 → Option (Int32 × px_M)} {g9031 : px_M → Nat → Int32 → Option (Int32 × px_M)} {g9032 : px_M → Nat → Int32 → Option (Int32 × px_M)} (hg9030 : px_Ok (px_tb C) pn_i9030 (h - 1) (Sg_9030 g9030)) (hg9031 : px_Ok (px_tb C) pn_i9031 (h - 1) (Sg_9031 g9031)) (hg9032 : px_Ok (px_tb C) pn_i9032 (h - 1) (Sg_9032 g9032)) {k : Option px_V → px_M → Prop} {σ : px_M} (hs : oW (f_9030_95 (px_tb C) g9030 g9031 g9032 σ) (fun q => k (some (.inl q.1)) q.2)) : ∀ (z0 : Option px_V) (z1 : Option px_V) (z2 : Option px_V) (z3 : Option px_V), px_W C k 95 [z0, z1, z2, z3] [] σ := by
  intro z0 z1 z2 z3
  refine px_runG (h - 1) ck_9030 [] [] 80 hC px_nosp (by omega) px_nocut (fun G Jf hG hJf => ?_)
  simp only [f_9030_95, oW_some, oW_none, oW_bind, oW_map, oW_ite, oW_bn, oW_gd, oW_oA, Sum.elim_inl, Sum.elim_inr, oW_and, true_and, and_true, false_and, and_false, true_or, or_true, false_or, or_false, and_self, or_self, not_false_eq_true, not_true_eq_false, false_implies, forall_const, true_implies, eq_self, ↓reduceIte] at hs
  simp only [↓hG, ↓hJf, ↓px_vc, ↓px_ex, ↓px_jp, ↓px_gi, ↓px_gl, ↓px_gr, ↓px_s1, ↓px_s2, ↓px_nl, ↓px_i1, ↓px_l1, ↓px_r1_o, ↓px_q1, ↓px_i2, ↓px_l2, ↓px_il, ↓px_d0, ↓px_d1, ↓px_d2, ↓px_pop, px_sz, ↓px_sp, ↓px_rd, ↓px_pt, ↓px_rok, ↓px_rv_o, ↓px_fill, ↓px_sl, ↓px_sw, ↓pn_SW, lc_lt, lc_ge, lc_gt, lc_le, lc_eq, ↓reduceIte, Nat.reduceEqDiff, Nat.reduceLeDiff, Nat.reduceAdd, Nat.reduceSub, reduceCtorEq, List.length_cons, List.length_nil, Option.toList_some, Option.toList_none, List.cons_append, List.nil_append, true_and, and_true, false_and, and_false, true_or, or_true, false_or, or_false, and_self, or_self, not_false_eq_true, not_true_eq_false, false_implies, forall_const, true_implies, eq_self, ↓kI_s, ↓kJ_s, ↓kN_s, ↓kO_s, ↓kZ_s, ↓kE_s, oW_and, ↓bk_9030, ↓pn_i9030, oW_some, oW_none, oW_bind, oW_map, oW_ite, oW_bn, oW_gd, oW_oA, Sum.elim_inl, Sum.elim_inr]
  exact hs
set_option maxHeartbeats 4000000 in
set_option maxRecDepth 100000 in
theorem rl_9030_52 {C : px_C} (hn : ((px_tb C).map Prod.fst).Nodup) {h : Nat} (hh : 3 ≤ h) (hC : px_ok C pn_i9030 h) {g9030 : px_M → Nat → Int32 → Option (Int32 × px_M)} {g9031 : px_M → Nat → Int32 → Option (Int32 × px_M)} {g9032 : px_M → Nat → Int32 → Option (Int32 × px_M)} (hg9030 : px_Ok (px_tb C) pn_i9030 (h - 1) (Sg_9030 g9030)) (hg9031 : px_Ok (px_tb C) pn_i9031 (h - 1) (Sg_9031 g9031)) (hg9032 : px_Ok (px_tb C) pn_i9032 (h - 1) (Sg_9032 g9032)) {k : Option px_V → px_M → Prop} {x0 : Nat} {x1 : Int32} {x2 : Int32} {x3 : Int32} {σ : px_M} (hs : oW (f_9030_52 (px_tb C) g9030 g9031 g9032 σ x0 x1 x2 x3) (Sum.elim (fun s : Int32 × px_M => ∀ (z3 : Option px_V), px_W C k 12 [some (.inr (.inr (some x0))), some (.inl x1), some (.inl s.1), z3] [] s.2) (fun q => k (some (.inl q.1)) q.2))) : px_W C k 52 [some (.inr (.inr (some x0))), some (.inl x1), some (.inl x2), some (.inl x3)] [] σ := by
  refine px_runG (h - 1) ck_9030 [(9015, Sg_9015 (f_9015 (px_tb C))), (9031, Sg_9031 g9031), (10004, Sg_10004 (f_10004 (px_tb C)))] [(12, kp_9030_12 (fun y0 y1 y2 τ => y0 = x0 ∧ y1 = x1 ∧ (fun s : Int32 × px_M => ∀ (z3 : Option px_V), px_W C k 12 [some (.inr (.inr (some x0))), some (.inl x1), some (.inl s.1), z3] [] s.2) (y2, τ)))] 80 hC (px_sp1 (mf_9015 hn (by omega)) (px_sp1 (hg9031) (px_sp1 (mf_10004 hn (by omega)) px_nosp))) (by omega) (px_cut1 (kq_9030_12 (fun y0 y1 y2 τ hq => by obtain ⟨rfl, rfl, hq⟩ := hq; exact hq)) px_nocut) (fun G Jf hG hJf => ?_)
  simp only [f_9030_52, oW_some, oW_none, oW_bind, oW_map, oW_ite, oW_bn, oW_gd, oW_oA, Sum.elim_inl, Sum.elim_inr, oW_and, true_and, and_true, false_and, and_false, true_or, or_true, false_or, or_false, and_self, or_self, not_false_eq_true, not_true_eq_false, false_implies, forall_const, true_implies, eq_self, ↓reduceIte] at hs
  simp only [↓hG, ↓hJf, ↓px_vc, ↓px_ex, ↓px_jp, ↓px_gi, ↓px_gl, ↓px_gr, ↓px_s1, ↓px_s2, ↓px_nl, ↓px_i1, ↓px_l1, ↓px_r1_o, ↓px_q1, ↓px_i2, ↓px_l2, ↓px_il, ↓px_d0, ↓px_d1, ↓px_d2, ↓px_pop, px_sz, ↓px_sp, ↓px_rd, ↓px_pt, ↓px_rok, ↓px_rv_o, ↓px_fill, ↓px_sl, ↓px_sw, ↓pn_SW, lc_lt, lc_ge, lc_gt, lc_le, lc_eq, ↓reduceIte, Nat.reduceEqDiff, Nat.reduceLeDiff, Nat.reduceAdd, Nat.reduceSub, reduceCtorEq, List.length_cons, List.length_nil, Option.toList_some, Option.toList_none, List.cons_append, List.nil_append, true_and, and_true, false_and, and_false, true_or, or_true, false_or, or_false, and_self, or_self, not_false_eq_true, not_true_eq_false, false_implies, forall_const, true_implies, eq_self, ↓kI_s, ↓kJ_s, ↓kN_s, ↓kO_s, ↓kZ_s, ↓kE_s, oW_and, ↓bk_9030, ↓pn_i9030, oW_some, oW_none, oW_bind, oW_map, oW_ite, oW_bn, oW_gd, oW_oA, Sum.elim_inl, Sum.elim_inr, ↓Sg_9015, ↓Sg_9031, ↓Sg_10004, ↓kp_9030_12]
  exact hs
set_option maxHeartbeats 4000000 in
set_option maxRecDepth 100000 in
theorem rl_9030_12 {C : px_C} (hn : ((px_tb C).map Prod.fst).Nodup) {h : Nat} (hh : 3 ≤ h) (hC : px_ok C pn_i9030 h) {g9030 : px_M → Nat → Int32 → Option (Int32 × px_M)} {g9031 : px_M → Nat → Int32 → Option (Int32 × px_M)} {g9032 : px_M → Nat → Int32 → Option (Int32 × px_M)} (hg9030 : px_Ok (px_tb C) pn_i9030 (h - 1) (Sg_9030 g9030)) (hg9031 : px_Ok (px_tb C) pn_i9031 (h - 1) (Sg_9031 g9031)) (hg9032 : px_Ok (px_tb C) pn_i9032 (h - 1) (Sg_9032 g9032)) {k : Option px_V → px_M → Prop} {x0 : Nat} {x1 : Int32} : ∀ s : Int32 × px_M, oW (f_9030_12 (px_tb C) g9030 g9031 g9032 x0 x1 s.1 s.2) (fun q => k (some (.inl q.1)) q.2) → (fun s : Int32 × px_M => ∀ (z3 : Option px_V), px_W C k 12 [some (.inr (.inr (some x0))), some (.inl x1), some (.inl s.1), z3] [] s.2) s := by
  intro s h0
  refine lpO_sound (P := (fun s : Int32 × px_M => ∀ (z3 : Option px_V), px_W C k 12 [some (.inr (.inr (some x0))), some (.inl x1), some (.inl s.1), z3] [] s.2)) (fun s hs => ?_) h0
  obtain ⟨x2, σ⟩ := s
  intro z3
  refine px_runG (h - 1) ck_9030 [] [(52, kp_9030_52 (fun y0 y1 y2 y3 τ => y0 = x0 ∧ y1 = x1 ∧ oW (f_9030_52 (px_tb C) g9030 g9031 g9032 τ y0 y1 y2 y3) (Sum.elim (fun s : Int32 × px_M => ∀ (z3 : Option px_V), px_W C k 12 [some (.inr (.inr (some x0))), some (.inl x1), some (.inl s.1), z3] [] s.2) (fun q => k (some (.inl q.1)) q.2)))), (95, kp_9030_95 (fun τ => oW (f_9030_95 (px_tb C) g9030 g9031 g9032 τ) (fun q => k (some (.inl q.1)) q.2)))] 80 hC px_nosp (by omega) (px_cut1 (kq_9030_52 (fun y0 y1 y2 y3 τ hq => by obtain ⟨rfl, rfl, hq⟩ := hq; exact rl_9030_52 hn (by omega) hC hg9030 hg9031 hg9032  hq)) (px_cut1 (kq_9030_95 (fun τ hq => by exact rl_9030_95 hn (by omega) hC hg9030 hg9031 hg9032  hq)) px_nocut)) (fun G Jf hG hJf => ?_)
  simp only [F_9030_12, oW_some, oW_none, oW_bind, oW_map, oW_ite, oW_bn, oW_gd, oW_oA, Sum.elim_inl, Sum.elim_inr, oW_and, true_and, and_true, false_and, and_false, true_or, or_true, false_or, or_false, and_self, or_self, not_false_eq_true, not_true_eq_false, false_implies, forall_const, true_implies, eq_self, ↓reduceIte] at hs
  simp only [↓hG, ↓hJf, ↓px_vc, ↓px_ex, ↓px_jp, ↓px_gi, ↓px_gl, ↓px_gr, ↓px_s1, ↓px_s2, ↓px_nl, ↓px_i1, ↓px_l1, ↓px_r1_o, ↓px_q1, ↓px_i2, ↓px_l2, ↓px_il, ↓px_d0, ↓px_d1, ↓px_d2, ↓px_pop, px_sz, ↓px_sp, ↓px_rd, ↓px_pt, ↓px_rok, ↓px_rv_o, ↓px_fill, ↓px_sl, ↓px_sw, ↓pn_SW, lc_lt, lc_ge, lc_gt, lc_le, lc_eq, ↓reduceIte, Nat.reduceEqDiff, Nat.reduceLeDiff, Nat.reduceAdd, Nat.reduceSub, reduceCtorEq, List.length_cons, List.length_nil, Option.toList_some, Option.toList_none, List.cons_append, List.nil_append, true_and, and_true, false_and, and_false, true_or, or_true, false_or, or_false, and_self, or_self, not_false_eq_true, not_true_eq_false, false_implies, forall_const, true_implies, eq_self, ↓kI_s, ↓kJ_s, ↓kN_s, ↓kO_s, ↓kZ_s, ↓kE_s, oW_and, ↓bk_9030, ↓pn_i9030, oW_some, oW_none, oW_bind, oW_map, oW_ite, oW_bn, oW_gd, oW_oA, Sum.elim_inl, Sum.elim_inr, ↓kp_9030_52, ↓kp_9030_95]
  exact hs
set_option maxHeartbeats 4000000 in
set_option maxRecDepth 100000 in
theorem mF_9030 {tab : px_T} (hn : (tab.map Prod.fst).Nodup) {h : Nat} (hh : 3 ≤ h) {g9030 : px_M → Nat → Int32 → Option (Int32 × px_M)} {g9031 : px_M → Nat → Int32 → Option (Int32 × px_M)} {g9032 : px_M → Nat → Int32 → Option (Int32 × px_M)} (hg9030 : px_Ok tab pn_i9030 (h - 1) (Sg_9030 g9030)) (hg9031 : px_Ok tab pn_i9031 (h - 1) (Sg_9031 g9031)) (hg9032 : px_Ok tab pn_i9032 (h - 1) (Sg_9032 g9032)) : px_Ok tab pn_i9030 h (Sg_9030 (F_9030 tab g9030 g9031 g9032)) := by
  refine px_mth hn (by decide +kernel) (fun av σ k hS => ?_) (fun C hT hC av σ k hS => ?_)
  · obtain ⟨x0, av0, e0, h0⟩ := px_r1_spec hS
    obtain ⟨x1, av1, e1, h1⟩ := px_i1_spec h0
    obtain ⟨ez, hz⟩ := h1
    subst ez
    subst e1
    subst e0
    exact Nat.le_of_ble_eq_true rfl
  · obtain ⟨x0, av0, e0, h0⟩ := px_r1_spec hS
    obtain ⟨x1, av1, e1, h1⟩ := px_i1_spec h0
    obtain ⟨ez, hz⟩ := h1
    subst ez
    subst e1
    subst e0
    subst hT
    refine px_runG (h - 1) ck_9030 [(9031, Sg_9031 g9031)] [(12, kp_9030_12 (fun y0 y1 y2 τ => oW (f_9030_12 (px_tb C) g9030 g9031 g9032 y0 y1 y2 τ) (fun q => k (some (.inl q.1)) q.2)))] 80 hC (px_sp1 (hg9031) px_nosp) (by omega) (px_cut1 (kq_9030_12 (fun y0 y1 y2 τ hq => by exact rl_9030_12 hn (by omega) hC hg9030 hg9031 hg9032 (y2, τ) hq)) px_nocut) (fun G Jf hG hJf => ?_)
    simp only [F_9030, oW_some, oW_none, oW_bind, oW_map, oW_ite, oW_bn, oW_gd, oW_oA, Sum.elim_inl, Sum.elim_inr, oW_and, true_and, and_true, false_and, and_false, true_or, or_true, false_or, or_false, and_self, or_self, not_false_eq_true, not_true_eq_false, false_implies, forall_const, true_implies, eq_self, ↓reduceIte] at hz
    simp only [↓hG, ↓hJf, ↓px_vc, ↓px_ex, ↓px_jp, ↓px_gi, ↓px_gl, ↓px_gr, ↓px_s1, ↓px_s2, ↓px_nl, ↓px_i1, ↓px_l1, ↓px_r1_o, ↓px_q1, ↓px_i2, ↓px_l2, ↓px_il, ↓px_d0, ↓px_d1, ↓px_d2, ↓px_pop, px_sz, ↓px_sp, ↓px_rd, ↓px_pt, ↓px_rok, ↓px_rv_o, ↓px_fill, ↓px_sl, ↓px_sw, ↓pn_SW, lc_lt, lc_ge, lc_gt, lc_le, lc_eq, ↓reduceIte, Nat.reduceEqDiff, Nat.reduceLeDiff, Nat.reduceAdd, Nat.reduceSub, reduceCtorEq, List.length_cons, List.length_nil, Option.toList_some, Option.toList_none, List.cons_append, List.nil_append, true_and, and_true, false_and, and_false, true_or, or_true, false_or, or_false, and_self, or_self, not_false_eq_true, not_true_eq_false, false_implies, forall_const, true_implies, eq_self, ↓kI_s, ↓kJ_s, ↓kN_s, ↓kO_s, ↓kZ_s, ↓kE_s, oW_and, ↓bk_9030, ↓pn_i9030, oW_some, oW_none, oW_bind, oW_map, oW_ite, oW_bn, oW_gd, oW_oA, Sum.elim_inl, Sum.elim_inr, ↓Sg_9031, ↓kp_9030_12]
    exact hz
/-- NoThree$Reader.readTerm(I)Z -/
noncomputable def F_9031_12 (tab : px_T) (g9030 : px_M → Nat → Int32 → Option (Int32 × px_M)) (g9031 : px_M → Nat → Int32 → Option (Int32 × px_M)) (g9032 : px_M → Nat → Int32 → Option (Int32 × px_M)) (x0 : Nat) (x1 : Int32) (x2 : Int32) (σ : px_M) : Option ((Int32 × px_M) ⊕ (Int32 × px_M)) := if (nI 900) ≤ x2 then (some (.inr (((nI 1), σ)))) else (gd (px_obj (px_lay tab x0) 9) (bn (((σ).1 x0 9) = (nI 4042)) (some (.inr (((nI 1), σ)))) (gd (px_obj (px_lay tab x0) 9) ((f_9015 tab σ x0).bind fun q1 => gd (px_obj (px_lay tab x0) 9) ((g9032 q1 x0 x1).bind fun q2 => bn (q2.1 = nI 0) (gd (px_obj (px_lay tab x0) 9) ((((q2.2).2.2 x0 3)).bind fun n3 => gd (px_obj (px_lay tab n3) 1) ((((q2.2).2.2 n3 1)).bind fun n4 => gd (px_obj (px_lay tab n4) 10) ((f_10004 tab q2.2 n4 ((nI 2002))).bind fun q5 => some (.inl (((x2 + (nI 1)), q5))))))) (some (.inr (((nI 0), q2.2)))))))))
noncomputable def f_9031_12 (tab : px_T) (g9030 : px_M → Nat → Int32 → Option (Int32 × px_M)) (g9031 : px_M → Nat → Int32 → Option (Int32 × px_M)) (g9032 : px_M → Nat → Int32 → Option (Int32 × px_M)) (x0 : Nat) (x1 : Int32) (x2 : Int32) (σ : px_M) : Option (Int32 × px_M) := lpO (fun s : Int32 × px_M => F_9031_12 tab g9030 g9031 g9032 x0 x1 s.1 s.2) (x2, σ)
theorem f_9031_12_eq (tab : px_T) (g9030 : px_M → Nat → Int32 → Option (Int32 × px_M)) (g9031 : px_M → Nat → Int32 → Option (Int32 × px_M)) (g9032 : px_M → Nat → Int32 → Option (Int32 × px_M)) (x0 : Nat) (x1 : Int32) (x2 : Int32) (σ : px_M) : f_9031_12 tab g9030 g9031 g9032 x0 x1 x2 σ = (F_9031_12 tab g9030 g9031 g9032 x0 x1 x2 σ).bind (Sum.elim (fun s => f_9031_12 tab g9030 g9031 g9032 x0 x1 s.1 s.2) some) := lpO_eq _ _
noncomputable def F_9031 (tab : px_T) (g9030 : px_M → Nat → Int32 → Option (Int32 × px_M)) (g9031 : px_M → Nat → Int32 → Option (Int32 × px_M)) (g9032 : px_M → Nat → Int32 → Option (Int32 × px_M)) (σ : px_M) (x0 : Nat) (x1 : Int32) : Option (Int32 × px_M) := gd (px_obj (px_lay tab x0) 9) ((g9032 σ x0 x1).bind fun q1 => bn (q1.1 = nI 0) (f_9031_12 tab g9030 g9031 g9032 x0 x1 ((nI 0)) q1.2) (some (((nI 0), q1.2))))
def Sg_9031 (g : px_M → Nat → Int32 → Option (Int32 × px_M)) : px_S := fun av σ k => px_r1 av (fun x0 av => px_i1 av (fun x1 av => av = [] ∧ oW (g σ x0 x1) (fun q => k (some (.inl q.1)) q.2)))
def kp_9031_12 (Q : Nat → Int32 → Int32 → px_M → Prop) : px_P := fun ls st τ => st = [] ∧ kN ls (fun x0 ls => kI ls (fun x1 ls => kI ls (fun x2 ls => kE ls (Q x0 x1 x2 τ))))
theorem kq_9031_12 {C : px_C} {k : Option px_V → px_M → Prop} {Q : Nat → Int32 → Int32 → px_M → Prop} (H : ∀ (x0 : Nat) (x1 : Int32) (x2 : Int32) (τ : px_M), Q x0 x1 x2 τ → px_W C k 12 [some (.inr (.inr (some x0))), some (.inl x1), some (.inl x2)] [] τ) : ∀ ls st τ, kp_9031_12 Q ls st τ → px_W C k 12 ls st τ := by
  intro ls st τ hz
  obtain ⟨ez, h0⟩ := hz
  obtain ⟨x0, l0, e0, h1⟩ := kN_sp h0
  obtain ⟨x1, l1, e1, h2⟩ := kI_sp h1
  obtain ⟨x2, l2, e2, h3⟩ := kI_sp h2
  obtain ⟨ey, hy⟩ := kE_sp h3
  subst ez
  subst ey
  subst e2
  subst e1
  subst e0
  exact H x0 x1 x2 τ hy
set_option maxHeartbeats 4000000 in
set_option maxRecDepth 100000 in
theorem rl_9031_12 {C : px_C} (hn : ((px_tb C).map Prod.fst).Nodup) {h : Nat} (hh : 3 ≤ h) (hC : px_ok C pn_i9031 h) {g9030 : px_M → Nat → Int32 → Option (Int32 × px_M)} {g9031 : px_M → Nat → Int32 → Option (Int32 × px_M)} {g9032 : px_M → Nat → Int32 → Option (Int32 × px_M)} (hg9030 : px_Ok (px_tb C) pn_i9030 (h - 1) (Sg_9030 g9030)) (hg9031 : px_Ok (px_tb C) pn_i9031 (h - 1) (Sg_9031 g9031)) (hg9032 : px_Ok (px_tb C) pn_i9032 (h - 1) (Sg_9032 g9032)) {k : Option px_V → px_M → Prop} {x0 : Nat} {x1 : Int32} : ∀ s : Int32 × px_M, oW (f_9031_12 (px_tb C) g9030 g9031 g9032 x0 x1 s.1 s.2) (fun q => k (some (.inl q.1)) q.2) → (fun s : Int32 × px_M => px_W C k 12 [some (.inr (.inr (some x0))), some (.inl x1), some (.inl s.1)] [] s.2) s := by
  intro s h0
  refine lpO_sound (P := (fun s : Int32 × px_M => px_W C k 12 [some (.inr (.inr (some x0))), some (.inl x1), some (.inl s.1)] [] s.2)) (fun s hs => ?_) h0
  obtain ⟨x2, σ⟩ := s
  refine px_runG (h - 1) ck_9031 [(9015, Sg_9015 (f_9015 (px_tb C))), (9032, Sg_9032 g9032), (10004, Sg_10004 (f_10004 (px_tb C)))] [(12, kp_9031_12 (fun y0 y1 y2 τ => y0 = x0 ∧ y1 = x1 ∧ (fun s : Int32 × px_M => px_W C k 12 [some (.inr (.inr (some x0))), some (.inl x1), some (.inl s.1)] [] s.2) (y2, τ)))] 80 hC (px_sp1 (mf_9015 hn (by omega)) (px_sp1 (hg9032) (px_sp1 (mf_10004 hn (by omega)) px_nosp))) (by omega) (px_cut1 (kq_9031_12 (fun y0 y1 y2 τ hq => by obtain ⟨rfl, rfl, hq⟩ := hq; exact hq)) px_nocut) (fun G Jf hG hJf => ?_)
  simp only [F_9031_12, oW_some, oW_none, oW_bind, oW_map, oW_ite, oW_bn, oW_gd, oW_oA, Sum.elim_inl, Sum.elim_inr, oW_and, true_and, and_true, false_and, and_false, true_or, or_true, false_or, or_false, and_self, or_self, not_false_eq_true, not_true_eq_false, false_implies, forall_const, true_implies, eq_self, ↓reduceIte] at hs
  simp only [↓hG, ↓hJf, ↓px_vc, ↓px_ex, ↓px_jp, ↓px_gi, ↓px_gl, ↓px_gr, ↓px_s1, ↓px_s2, ↓px_nl, ↓px_i1, ↓px_l1, ↓px_r1_o, ↓px_q1, ↓px_i2, ↓px_l2, ↓px_il, ↓px_d0, ↓px_d1, ↓px_d2, ↓px_pop, px_sz, ↓px_sp, ↓px_rd, ↓px_pt, ↓px_rok, ↓px_rv_o, ↓px_fill, ↓px_sl, ↓px_sw, ↓pn_SW, lc_lt, lc_ge, lc_gt, lc_le, lc_eq, ↓reduceIte, Nat.reduceEqDiff, Nat.reduceLeDiff, Nat.reduceAdd, Nat.reduceSub, reduceCtorEq, List.length_cons, List.length_nil, Option.toList_some, Option.toList_none, List.cons_append, List.nil_append, true_and, and_true, false_and, and_false, true_or, or_true, false_or, or_false, and_self, or_self, not_false_eq_true, not_true_eq_false, false_implies, forall_const, true_implies, eq_self, ↓kI_s, ↓kJ_s, ↓kN_s, ↓kO_s, ↓kZ_s, ↓kE_s, oW_and, ↓bk_9031, ↓pn_i9031, oW_some, oW_none, oW_bind, oW_map, oW_ite, oW_bn, oW_gd, oW_oA, Sum.elim_inl, Sum.elim_inr, ↓Sg_9015, ↓Sg_9032, ↓Sg_10004, ↓kp_9031_12]
  exact hs
set_option maxHeartbeats 4000000 in
set_option maxRecDepth 100000 in
theorem mF_9031 {tab : px_T} (hn : (tab.map Prod.fst).Nodup) {h : Nat} (hh : 3 ≤ h) {g9030 : px_M → Nat → Int32 → Option (Int32 × px_M)} {g9031 : px_M → Nat → Int32 → Option (Int32 × px_M)} {g9032 : px_M → Nat → Int32 → Option (Int32 × px_M)} (hg9030 : px_Ok tab pn_i9030 (h - 1) (Sg_9030 g9030)) (hg9031 : px_Ok tab pn_i9031 (h - 1) (Sg_9031 g9031)) (hg9032 : px_Ok tab pn_i9032 (h - 1) (Sg_9032 g9032)) : px_Ok tab pn_i9031 h (Sg_9031 (F_9031 tab g9030 g9031 g9032)) := by
  refine px_mth hn (by decide +kernel) (fun av σ k hS => ?_) (fun C hT hC av σ k hS => ?_)
  · obtain ⟨x0, av0, e0, h0⟩ := px_r1_spec hS
    obtain ⟨x1, av1, e1, h1⟩ := px_i1_spec h0
    obtain ⟨ez, hz⟩ := h1
    subst ez
    subst e1
    subst e0
    exact Nat.le_of_ble_eq_true rfl
  · obtain ⟨x0, av0, e0, h0⟩ := px_r1_spec hS
    obtain ⟨x1, av1, e1, h1⟩ := px_i1_spec h0
    obtain ⟨ez, hz⟩ := h1
    subst ez
    subst e1
    subst e0
    subst hT
    refine px_runG (h - 1) ck_9031 [(9032, Sg_9032 g9032)] [(12, kp_9031_12 (fun y0 y1 y2 τ => oW (f_9031_12 (px_tb C) g9030 g9031 g9032 y0 y1 y2 τ) (fun q => k (some (.inl q.1)) q.2)))] 80 hC (px_sp1 (hg9032) px_nosp) (by omega) (px_cut1 (kq_9031_12 (fun y0 y1 y2 τ hq => by exact rl_9031_12 hn (by omega) hC hg9030 hg9031 hg9032 (y2, τ) hq)) px_nocut) (fun G Jf hG hJf => ?_)
    simp only [F_9031, oW_some, oW_none, oW_bind, oW_map, oW_ite, oW_bn, oW_gd, oW_oA, Sum.elim_inl, Sum.elim_inr, oW_and, true_and, and_true, false_and, and_false, true_or, or_true, false_or, or_false, and_self, or_self, not_false_eq_true, not_true_eq_false, false_implies, forall_const, true_implies, eq_self, ↓reduceIte] at hz
    simp only [↓hG, ↓hJf, ↓px_vc, ↓px_ex, ↓px_jp, ↓px_gi, ↓px_gl, ↓px_gr, ↓px_s1, ↓px_s2, ↓px_nl, ↓px_i1, ↓px_l1, ↓px_r1_o, ↓px_q1, ↓px_i2, ↓px_l2, ↓px_il, ↓px_d0, ↓px_d1, ↓px_d2, ↓px_pop, px_sz, ↓px_sp, ↓px_rd, ↓px_pt, ↓px_rok, ↓px_rv_o, ↓px_fill, ↓px_sl, ↓px_sw, ↓pn_SW, lc_lt, lc_ge, lc_gt, lc_le, lc_eq, ↓reduceIte, Nat.reduceEqDiff, Nat.reduceLeDiff, Nat.reduceAdd, Nat.reduceSub, reduceCtorEq, List.length_cons, List.length_nil, Option.toList_some, Option.toList_none, List.cons_append, List.nil_append, true_and, and_true, false_and, and_false, true_or, or_true, false_or, or_false, and_self, or_self, not_false_eq_true, not_true_eq_false, false_implies, forall_const, true_implies, eq_self, ↓kI_s, ↓kJ_s, ↓kN_s, ↓kO_s, ↓kZ_s, ↓kE_s, oW_and, ↓bk_9031, ↓pn_i9031, oW_some, oW_none, oW_bind, oW_map, oW_ite, oW_bn, oW_gd, oW_oA, Sum.elim_inl, Sum.elim_inr, ↓Sg_9032, ↓kp_9031_12]
    exact hz
/-- NoThree$Reader.readAtom(I)Z -/
noncomputable def F_9032 (tab : px_T) (g9030 : px_M → Nat → Int32 → Option (Int32 × px_M)) (g9031 : px_M → Nat → Int32 → Option (Int32 × px_M)) (g9032 : px_M → Nat → Int32 → Option (Int32 × px_M)) (σ : px_M) (x0 : Nat) (x1 : Int32) : Option (Int32 × px_M) := gd (px_obj (px_lay tab x0) 9) ((f_9016 tab σ x0).bind fun r1 => bn (r1 = nI 0) (gd (px_obj (px_lay tab x0) 9) ((((σ).2.2 x0 3)).bind fun n2 => gd (px_obj (px_lay tab n2) 1) (gd (px_obj (px_lay tab x0) 9) ((((σ).2.2 n2 1)).bind fun n3 => gd (px_obj (px_lay tab n3) 10) ((f_10004 tab σ n3 (((σ).1 x0 9))).bind fun q4 => gd (px_obj (px_lay tab x0) 9) ((f_9015 tab q4 x0).bind fun q5 => some (((nI 1), q5)))))))) (gd (px_obj (px_lay tab x0) 9) ((f_9017 tab σ x0).bind fun r6 => if r6 = nI 0 then (gd (px_obj (px_lay tab x0) 9) (if ((σ).1 x0 9) = (nI 4040) then (if x1 < (nI 6) then (gd (px_obj (px_lay tab x0) 9) ((f_9015 tab σ x0).bind fun q7 => gd (px_obj (px_lay tab x0) 9) ((g9030 q7 x0 ((x1 + (nI 1)))).bind fun q8 => if q8.1 = nI 0 then (some (((nI 0), q8.2))) else (gd (px_obj (px_lay tab x0) 9) ((f_9019 tab q8.2 x0 ((nI 4041))).bind fun q9 => if q9.1 = nI 0 then (some (((nI 0), q9.2))) else (some (((nI 1), q9.2)))))))) else (gd (px_obj (px_lay tab x0) 9) ((f_9018 tab σ x0 ((nI 4))).bind fun q10 => gd (q10.1 = nI 0 ∨ q10.1 = nI 1) (some ((q10.1, q10.2)))))) else (gd (px_obj (px_lay tab x0) 9) ((f_9018 tab σ x0 ((nI 2))).bind fun q11 => gd (q11.1 = nI 0 ∨ q11.1 = nI 1) (some ((q11.1, q11.2))))))) else (gd (px_obj (px_lay tab x0) 9) ((((σ).2.2 x0 3)).bind fun n12 => gd (px_obj (px_lay tab n12) 1) (gd (px_obj (px_lay tab x0) 9) ((((σ).2.2 n12 1)).bind fun n13 => gd (px_obj (px_lay tab n13) 10) ((f_10004 tab σ n13 (((σ).1 x0 9))).bind fun q14 => gd (px_obj (px_lay tab x0) 9) ((f_9015 tab q14 x0).bind fun q15 => some (((nI 1), q15)))))))))))
def Sg_9032 (g : px_M → Nat → Int32 → Option (Int32 × px_M)) : px_S := fun av σ k => px_r1 av (fun x0 av => px_i1 av (fun x1 av => av = [] ∧ oW (g σ x0 x1) (fun q => k (some (.inl q.1)) q.2)))
set_option maxHeartbeats 4000000 in
set_option maxRecDepth 100000 in
theorem mF_9032 {tab : px_T} (hn : (tab.map Prod.fst).Nodup) {h : Nat} (hh : 3 ≤ h) {g9030 : px_M → Nat → Int32 → Option (Int32 × px_M)} {g9031 : px_M → Nat → Int32 → Option (Int32 × px_M)} {g9032 : px_M → Nat → Int32 → Option (Int32 × px_M)} (hg9030 : px_Ok tab pn_i9030 (h - 1) (Sg_9030 g9030)) (hg9031 : px_Ok tab pn_i9031 (h - 1) (Sg_9031 g9031)) (hg9032 : px_Ok tab pn_i9032 (h - 1) (Sg_9032 g9032)) : px_Ok tab pn_i9032 h (Sg_9032 (F_9032 tab g9030 g9031 g9032)) := by
  refine px_mth hn (by decide +kernel) (fun av σ k hS => ?_) (fun C hT hC av σ k hS => ?_)
  · obtain ⟨x0, av0, e0, h0⟩ := px_r1_spec hS
    obtain ⟨x1, av1, e1, h1⟩ := px_i1_spec h0
    obtain ⟨ez, hz⟩ := h1
    subst ez
    subst e1
    subst e0
    exact Nat.le_of_ble_eq_true rfl
  · obtain ⟨x0, av0, e0, h0⟩ := px_r1_spec hS
    obtain ⟨x1, av1, e1, h1⟩ := px_i1_spec h0
    obtain ⟨ez, hz⟩ := h1
    subst ez
    subst e1
    subst e0
    subst hT
    refine px_runG (h - 1) ck_9032 [(9015, Sg_9015 (f_9015 (px_tb C))), (9016, Sg_9016 (f_9016 (px_tb C))), (9017, Sg_9017 (f_9017 (px_tb C))), (9018, Sg_9018 (f_9018 (px_tb C))), (9019, Sg_9019 (f_9019 (px_tb C))), (9030, Sg_9030 g9030), (10004, Sg_10004 (f_10004 (px_tb C)))] [] 80 hC (px_sp1 (mf_9015 hn (by omega)) (px_sp1 (mf_9016 hn (by omega)) (px_sp1 (mf_9017 hn (by omega)) (px_sp1 (mf_9018 hn (by omega)) (px_sp1 (mf_9019 hn (by omega)) (px_sp1 (hg9030) (px_sp1 (mf_10004 hn (by omega)) px_nosp))))))) (by omega) px_nocut (fun G Jf hG hJf => ?_)
    simp only [F_9032, oW_some, oW_none, oW_bind, oW_map, oW_ite, oW_bn, oW_gd, oW_oA, Sum.elim_inl, Sum.elim_inr, oW_and, true_and, and_true, false_and, and_false, true_or, or_true, false_or, or_false, and_self, or_self, not_false_eq_true, not_true_eq_false, false_implies, forall_const, true_implies, eq_self, ↓reduceIte] at hz
    simp only [↓hG, ↓hJf, ↓px_vc, ↓px_ex, ↓px_jp, ↓px_gi, ↓px_gl, ↓px_gr, ↓px_s1, ↓px_s2, ↓px_nl, ↓px_i1, ↓px_l1, ↓px_r1_o, ↓px_q1, ↓px_i2, ↓px_l2, ↓px_il, ↓px_d0, ↓px_d1, ↓px_d2, ↓px_pop, px_sz, ↓px_sp, ↓px_rd, ↓px_pt, ↓px_rok, ↓px_rv_o, ↓px_fill, ↓px_sl, ↓px_sw, ↓pn_SW, lc_lt, lc_ge, lc_gt, lc_le, lc_eq, ↓reduceIte, Nat.reduceEqDiff, Nat.reduceLeDiff, Nat.reduceAdd, Nat.reduceSub, reduceCtorEq, List.length_cons, List.length_nil, Option.toList_some, Option.toList_none, List.cons_append, List.nil_append, true_and, and_true, false_and, and_false, true_or, or_true, false_or, or_false, and_self, or_self, not_false_eq_true, not_true_eq_false, false_implies, forall_const, true_implies, eq_self, ↓kI_s, ↓kJ_s, ↓kN_s, ↓kO_s, ↓kZ_s, ↓kE_s, oW_and, ↓bk_9032, ↓pn_i9032, oW_some, oW_none, oW_bind, oW_map, oW_ite, oW_bn, oW_gd, oW_oA, Sum.elim_inl, Sum.elim_inr, ↓Sg_9015, ↓Sg_9016, ↓Sg_9017, ↓Sg_9018, ↓Sg_9019, ↓Sg_9030, ↓Sg_10004]
    exact hz
noncomputable def fr_9030 (tab : px_T) : Nat → (px_M → Nat → Int32 → Option (Int32 × px_M)) × (px_M → Nat → Int32 → Option (Int32 × px_M)) × (px_M → Nat → Int32 → Option (Int32 × px_M))
  | 0 => (fun _ _ _ => none, fun _ _ _ => none, fun _ _ _ => none)
  | d + 1 => (F_9030 tab ((fr_9030 tab d).1) ((fr_9030 tab d).2.1) ((fr_9030 tab d).2.2), F_9031 tab ((fr_9030 tab d).1) ((fr_9030 tab d).2.1) ((fr_9030 tab d).2.2), F_9032 tab ((fr_9030 tab d).1) ((fr_9030 tab d).2.1) ((fr_9030 tab d).2.2))
noncomputable def f_9030 (tab : px_T) (d : Nat) : px_M → Nat → Int32 → Option (Int32 × px_M) := (fr_9030 tab d).1
noncomputable def f_9031 (tab : px_T) (d : Nat) : px_M → Nat → Int32 → Option (Int32 × px_M) := (fr_9030 tab d).2.1
noncomputable def f_9032 (tab : px_T) (d : Nat) : px_M → Nat → Int32 → Option (Int32 × px_M) := (fr_9030 tab d).2.2
theorem f_9030_S (tab : px_T) (d : Nat) : f_9030 tab (d + 1) = F_9030 tab (f_9030 tab d) (f_9031 tab d) (f_9032 tab d) := rfl
theorem f_9031_S (tab : px_T) (d : Nat) : f_9031 tab (d + 1) = F_9031 tab (f_9030 tab d) (f_9031 tab d) (f_9032 tab d) := rfl
theorem f_9032_S (tab : px_T) (d : Nat) : f_9032 tab (d + 1) = F_9032 tab (f_9030 tab d) (f_9031 tab d) (f_9032 tab d) := rfl
theorem mr_f9030 {tab : px_T} (hn : (tab.map Prod.fst).Nodup) : ∀ (d h : Nat), 2 + d ≤ h → px_Ok tab pn_i9030 h (Sg_9030 (f_9030 tab d)) ∧ px_Ok tab pn_i9031 h (Sg_9031 (f_9031 tab d)) ∧ px_Ok tab pn_i9032 h (Sg_9032 (f_9032 tab d)) := by
  intro d
  induction d with
  | zero =>
    intro h hh
    exact ⟨px_Ok_no (fun av σ k h0 => by obtain ⟨x0, av0, -, h1⟩ := px_r1_spec h0; obtain ⟨x1, av1, -, h2⟩ := px_i1_spec h1; exact h2.2.elim), px_Ok_no (fun av σ k h0 => by obtain ⟨x0, av0, -, h1⟩ := px_r1_spec h0; obtain ⟨x1, av1, -, h2⟩ := px_i1_spec h1; exact h2.2.elim), px_Ok_no (fun av σ k h0 => by obtain ⟨x0, av0, -, h1⟩ := px_r1_spec h0; obtain ⟨x1, av1, -, h2⟩ := px_i1_spec h1; exact h2.2.elim)⟩
  | succ d ih =>
    intro h hh
    obtain ⟨h9030, h9031, h9032⟩ := ih (h - 1) (by omega)
    exact ⟨mF_9030 hn (by omega) h9030 h9031 h9032, mF_9031 hn (by omega) h9030 h9031 h9032, mF_9032 hn (by omega) h9030 h9031 h9032⟩
theorem mf_9030 {tab : px_T} (hn : (tab.map Prod.fst).Nodup) {h d : Nat} (hh : 2 + d ≤ h) : px_Ok tab pn_i9030 h (Sg_9030 (f_9030 tab d)) := (mr_f9030 hn d h hh).1
theorem mf_9031 {tab : px_T} (hn : (tab.map Prod.fst).Nodup) {h d : Nat} (hh : 2 + d ≤ h) : px_Ok tab pn_i9031 h (Sg_9031 (f_9031 tab d)) := (mr_f9030 hn d h hh).2.1
theorem mf_9032 {tab : px_T} (hn : (tab.map Prod.fst).Nodup) {h d : Nat} (hh : 2 + d ≤ h) : px_Ok tab pn_i9032 h (Sg_9032 (f_9032 tab d)) := (mr_f9030 hn d h hh).2.2
/-- NoThree$Reader.readComparison(I)Z -/
noncomputable def f_9028 (tab : px_T) (σ : px_M) (x0 : Nat) (x1 : Int32) : Option (Int32 × px_M) := gd (px_obj (px_lay tab x0) 9) ((f_9030 tab 60 σ x0 x1).bind fun q1 => bn (q1.1 = nI 0) (gd (px_obj (px_lay tab x0) 9) ((f_9029 tab q1.2 (((q1.2).1 x0 9))).bind fun r2 => bn (r2 = (-1)) (gd (px_obj (px_lay tab x0) 9) ((f_9015 tab q1.2 x0).bind fun q3 => gd (px_obj (px_lay tab x0) 9) ((f_9030 tab 60 q3 x0 x1).bind fun q4 => bn (q4.1 = nI 0) (gd (px_obj (px_lay tab x0) 9) ((((q4.2).2.2 x0 3)).bind fun n5 => gd (px_obj (px_lay tab n5) 1) ((((q4.2).2.2 n5 1)).bind fun n6 => gd (px_obj (px_lay tab n6) 10) ((f_10004 tab q4.2 n6 r2).bind fun q7 => some (((nI 1), q7)))))) (some (((nI 0), q4.2)))))) (gd (px_obj (px_lay tab x0) 9) ((f_9018 tab q1.2 x0 ((nI 2))).bind fun q8 => gd (q8.1 = nI 0 ∨ q8.1 = nI 1) (some ((q8.1, q8.2))))))) (some (((nI 0), q1.2))))
def Sg_9028 (g : px_M → Nat → Int32 → Option (Int32 × px_M)) : px_S := fun av σ k => px_r1 av (fun x0 av => px_i1 av (fun x1 av => av = [] ∧ oW (g σ x0 x1) (fun q => k (some (.inl q.1)) q.2)))
set_option maxHeartbeats 4000000 in
set_option maxRecDepth 100000 in
theorem mf_9028 {tab : px_T} (hn : (tab.map Prod.fst).Nodup) {h : Nat} (hh : 64 ≤ h) : px_Ok tab pn_i9028 h (Sg_9028 (f_9028 tab)) := by
  refine px_mth hn (by decide +kernel) (fun av σ k hS => ?_) (fun C hT hC av σ k hS => ?_)
  · obtain ⟨x0, av0, e0, h0⟩ := px_r1_spec hS
    obtain ⟨x1, av1, e1, h1⟩ := px_i1_spec h0
    obtain ⟨ez, hz⟩ := h1
    subst ez
    subst e1
    subst e0
    exact Nat.le_of_ble_eq_true rfl
  · obtain ⟨x0, av0, e0, h0⟩ := px_r1_spec hS
    obtain ⟨x1, av1, e1, h1⟩ := px_i1_spec h0
    obtain ⟨ez, hz⟩ := h1
    subst ez
    subst e1
    subst e0
    subst hT
    refine px_runG (h - 1) ck_9028 [(9015, Sg_9015 (f_9015 (px_tb C))), (9018, Sg_9018 (f_9018 (px_tb C))), (9029, Sg_9029 (f_9029 (px_tb C))), (9030, Sg_9030 (f_9030 (px_tb C) 60)), (10004, Sg_10004 (f_10004 (px_tb C)))] [] 80 hC (px_sp1 (mf_9015 hn (by omega)) (px_sp1 (mf_9018 hn (by omega)) (px_sp1 (mf_9029 hn (by omega)) (px_sp1 (mf_9030 hn (by omega)) (px_sp1 (mf_10004 hn (by omega)) px_nosp))))) (by omega) px_nocut (fun G Jf hG hJf => ?_)
    simp only [f_9028, oW_some, oW_none, oW_bind, oW_map, oW_ite, oW_bn, oW_gd, oW_oA, Sum.elim_inl, Sum.elim_inr, oW_and, true_and, and_true, false_and, and_false, true_or, or_true, false_or, or_false, and_self, or_self, not_false_eq_true, not_true_eq_false, false_implies, forall_const, true_implies, eq_self, ↓reduceIte] at hz
    simp only [↓hG, ↓hJf, ↓px_vc, ↓px_ex, ↓px_jp, ↓px_gi, ↓px_gl, ↓px_gr, ↓px_s1, ↓px_s2, ↓px_nl, ↓px_i1, ↓px_l1, ↓px_r1_o, ↓px_q1, ↓px_i2, ↓px_l2, ↓px_il, ↓px_d0, ↓px_d1, ↓px_d2, ↓px_pop, px_sz, ↓px_sp, ↓px_rd, ↓px_pt, ↓px_rok, ↓px_rv_o, ↓px_fill, ↓px_sl, ↓px_sw, ↓pn_SW, lc_lt, lc_ge, lc_gt, lc_le, lc_eq, ↓reduceIte, Nat.reduceEqDiff, Nat.reduceLeDiff, Nat.reduceAdd, Nat.reduceSub, reduceCtorEq, List.length_cons, List.length_nil, Option.toList_some, Option.toList_none, List.cons_append, List.nil_append, true_and, and_true, false_and, and_false, true_or, or_true, false_or, or_false, and_self, or_self, not_false_eq_true, not_true_eq_false, false_implies, forall_const, true_implies, eq_self, ↓kI_s, ↓kJ_s, ↓kN_s, ↓kO_s, ↓kZ_s, ↓kE_s, oW_and, ↓bk_9028, ↓pn_i9028, oW_some, oW_none, oW_bind, oW_map, oW_ite, oW_bn, oW_gd, oW_oA, Sum.elim_inl, Sum.elim_inr, ↓Sg_9015, ↓Sg_9018, ↓Sg_9029, ↓Sg_9030, ↓Sg_10004]
    exact hz
/-- NoThree$Reader.readTruth(I)Z -/
noncomputable def F_9025_12 (tab : px_T) (g9025 : px_M → Nat → Int32 → Option (Int32 × px_M)) (g9026 : px_M → Nat → Int32 → Option (Int32 × px_M)) (g9027 : px_M → Nat → Int32 → Option (Int32 × px_M)) (x0 : Nat) (x1 : Int32) (x2 : Int32) (σ : px_M) : Option ((Int32 × px_M) ⊕ (Int32 × px_M)) := if (nI 900) ≤ x2 then (some (.inr (((nI 1), σ)))) else (gd (px_obj (px_lay tab x0) 9) (bn (((σ).1 x0 9) = (nI 2008)) (some (.inr (((nI 1), σ)))) (gd (px_obj (px_lay tab x0) 9) ((f_9015 tab σ x0).bind fun q1 => gd (px_obj (px_lay tab x0) 9) ((g9026 q1 x0 x1).bind fun q2 => bn (q2.1 = nI 0) (gd (px_obj (px_lay tab x0) 9) ((((q2.2).2.2 x0 3)).bind fun n3 => gd (px_obj (px_lay tab n3) 1) ((((q2.2).2.2 n3 1)).bind fun n4 => gd (px_obj (px_lay tab n4) 10) ((f_10004 tab q2.2 n4 ((nI 2008))).bind fun q5 => some (.inl (((x2 + (nI 1)), q5))))))) (some (.inr (((nI 0), q2.2)))))))))
noncomputable def f_9025_12 (tab : px_T) (g9025 : px_M → Nat → Int32 → Option (Int32 × px_M)) (g9026 : px_M → Nat → Int32 → Option (Int32 × px_M)) (g9027 : px_M → Nat → Int32 → Option (Int32 × px_M)) (x0 : Nat) (x1 : Int32) (x2 : Int32) (σ : px_M) : Option (Int32 × px_M) := lpO (fun s : Int32 × px_M => F_9025_12 tab g9025 g9026 g9027 x0 x1 s.1 s.2) (x2, σ)
theorem f_9025_12_eq (tab : px_T) (g9025 : px_M → Nat → Int32 → Option (Int32 × px_M)) (g9026 : px_M → Nat → Int32 → Option (Int32 × px_M)) (g9027 : px_M → Nat → Int32 → Option (Int32 × px_M)) (x0 : Nat) (x1 : Int32) (x2 : Int32) (σ : px_M) : f_9025_12 tab g9025 g9026 g9027 x0 x1 x2 σ = (F_9025_12 tab g9025 g9026 g9027 x0 x1 x2 σ).bind (Sum.elim (fun s => f_9025_12 tab g9025 g9026 g9027 x0 x1 s.1 s.2) some) := lpO_eq _ _
noncomputable def F_9025 (tab : px_T) (g9025 : px_M → Nat → Int32 → Option (Int32 × px_M)) (g9026 : px_M → Nat → Int32 → Option (Int32 × px_M)) (g9027 : px_M → Nat → Int32 → Option (Int32 × px_M)) (σ : px_M) (x0 : Nat) (x1 : Int32) : Option (Int32 × px_M) := gd (px_obj (px_lay tab x0) 9) ((g9026 σ x0 x1).bind fun q1 => bn (q1.1 = nI 0) (f_9025_12 tab g9025 g9026 g9027 x0 x1 ((nI 0)) q1.2) (some (((nI 0), q1.2))))
def Sg_9025 (g : px_M → Nat → Int32 → Option (Int32 × px_M)) : px_S := fun av σ k => px_r1 av (fun x0 av => px_i1 av (fun x1 av => av = [] ∧ oW (g σ x0 x1) (fun q => k (some (.inl q.1)) q.2)))
def kp_9025_12 (Q : Nat → Int32 → Int32 → px_M → Prop) : px_P := fun ls st τ => st = [] ∧ kN ls (fun x0 ls => kI ls (fun x1 ls => kI ls (fun x2 ls => kE ls (Q x0 x1 x2 τ))))
theorem kq_9025_12 {C : px_C} {k : Option px_V → px_M → Prop} {Q : Nat → Int32 → Int32 → px_M → Prop} (H : ∀ (x0 : Nat) (x1 : Int32) (x2 : Int32) (τ : px_M), Q x0 x1 x2 τ → px_W C k 12 [some (.inr (.inr (some x0))), some (.inl x1), some (.inl x2)] [] τ) : ∀ ls st τ, kp_9025_12 Q ls st τ → px_W C k 12 ls st τ := by
  intro ls st τ hz
  obtain ⟨ez, h0⟩ := hz
  obtain ⟨x0, l0, e0, h1⟩ := kN_sp h0
  obtain ⟨x1, l1, e1, h2⟩ := kI_sp h1
  obtain ⟨x2, l2, e2, h3⟩ := kI_sp h2
  obtain ⟨ey, hy⟩ := kE_sp h3
  subst ez
  subst ey
  subst e2
  subst e1
  subst e0
  exact H x0 x1 x2 τ hy
set_option maxHeartbeats 4000000 in
set_option maxRecDepth 100000 in
theorem rl_9025_12 {C : px_C} (hn : ((px_tb C).map Prod.fst).Nodup) {h : Nat} (hh : 65 ≤ h) (hC : px_ok C pn_i9025 h) {g9025 : px_M → Nat → Int32 → Option (Int32 × px_M)} {g9026 : px_M → Nat → Int32 → Option (Int32 × px_M)} {g9027 : px_M → Nat → Int32 → Option (Int32 × px_M)} (hg9025 : px_Ok (px_tb C) pn_i9025 (h - 1) (Sg_9025 g9025)) (hg9026 : px_Ok (px_tb C) pn_i9026 (h - 1) (Sg_9026 g9026)) (hg9027 : px_Ok (px_tb C) pn_i9027 (h - 1) (Sg_9027 g9027)) {k : Option px_V → px_M → Prop} {x0 : Nat} {x1 : Int32} : ∀ s : Int32 × px_M, oW (f_9025_12 (px_tb C) g9025 g9026 g9027 x0 x1 s.1 s.2) (fun q => k (some (.inl q.1)) q.2) → (fun s : Int32 × px_M => px_W C k 12 [some (.inr (.inr (some x0))), some (.inl x1), some (.inl s.1)] [] s.2) s := by
  intro s h0
  refine lpO_sound (P := (fun s : Int32 × px_M => px_W C k 12 [some (.inr (.inr (some x0))), some (.inl x1), some (.inl s.1)] [] s.2)) (fun s hs => ?_) h0
  obtain ⟨x2, σ⟩ := s
  refine px_runG (h - 1) ck_9025 [(9015, Sg_9015 (f_9015 (px_tb C))), (9026, Sg_9026 g9026), (10004, Sg_10004 (f_10004 (px_tb C)))] [(12, kp_9025_12 (fun y0 y1 y2 τ => y0 = x0 ∧ y1 = x1 ∧ (fun s : Int32 × px_M => px_W C k 12 [some (.inr (.inr (some x0))), some (.inl x1), some (.inl s.1)] [] s.2) (y2, τ)))] 80 hC (px_sp1 (mf_9015 hn (by omega)) (px_sp1 (hg9026) (px_sp1 (mf_10004 hn (by omega)) px_nosp))) (by omega) (px_cut1 (kq_9025_12 (fun y0 y1 y2 τ hq => by obtain ⟨rfl, rfl, hq⟩ := hq; exact hq)) px_nocut) (fun G Jf hG hJf => ?_)
  simp only [F_9025_12, oW_some, oW_none, oW_bind, oW_map, oW_ite, oW_bn, oW_gd, oW_oA, Sum.elim_inl, Sum.elim_inr, oW_and, true_and, and_true, false_and, and_false, true_or, or_true, false_or, or_false, and_self, or_self, not_false_eq_true, not_true_eq_false, false_implies, forall_const, true_implies, eq_self, ↓reduceIte] at hs
  simp only [↓hG, ↓hJf, ↓px_vc, ↓px_ex, ↓px_jp, ↓px_gi, ↓px_gl, ↓px_gr, ↓px_s1, ↓px_s2, ↓px_nl, ↓px_i1, ↓px_l1, ↓px_r1_o, ↓px_q1, ↓px_i2, ↓px_l2, ↓px_il, ↓px_d0, ↓px_d1, ↓px_d2, ↓px_pop, px_sz, ↓px_sp, ↓px_rd, ↓px_pt, ↓px_rok, ↓px_rv_o, ↓px_fill, ↓px_sl, ↓px_sw, ↓pn_SW, lc_lt, lc_ge, lc_gt, lc_le, lc_eq, ↓reduceIte, Nat.reduceEqDiff, Nat.reduceLeDiff, Nat.reduceAdd, Nat.reduceSub, reduceCtorEq, List.length_cons, List.length_nil, Option.toList_some, Option.toList_none, List.cons_append, List.nil_append, true_and, and_true, false_and, and_false, true_or, or_true, false_or, or_false, and_self, or_self, not_false_eq_true, not_true_eq_false, false_implies, forall_const, true_implies, eq_self, ↓kI_s, ↓kJ_s, ↓kN_s, ↓kO_s, ↓kZ_s, ↓kE_s, oW_and, ↓bk_9025, ↓pn_i9025, oW_some, oW_none, oW_bind, oW_map, oW_ite, oW_bn, oW_gd, oW_oA, Sum.elim_inl, Sum.elim_inr, ↓Sg_9015, ↓Sg_9026, ↓Sg_10004, ↓kp_9025_12]
  exact hs
set_option maxHeartbeats 4000000 in
set_option maxRecDepth 100000 in
theorem mF_9025 {tab : px_T} (hn : (tab.map Prod.fst).Nodup) {h : Nat} (hh : 65 ≤ h) {g9025 : px_M → Nat → Int32 → Option (Int32 × px_M)} {g9026 : px_M → Nat → Int32 → Option (Int32 × px_M)} {g9027 : px_M → Nat → Int32 → Option (Int32 × px_M)} (hg9025 : px_Ok tab pn_i9025 (h - 1) (Sg_9025 g9025)) (hg9026 : px_Ok tab pn_i9026 (h - 1) (Sg_9026 g9026)) (hg9027 : px_Ok tab pn_i9027 (h - 1) (Sg_9027 g9027)) : px_Ok tab pn_i9025 h (Sg_9025 (F_9025 tab g9025 g9026 g9027)) := by
  refine px_mth hn (by decide +kernel) (fun av σ k hS => ?_) (fun C hT hC av σ k hS => ?_)
  · obtain ⟨x0, av0, e0, h0⟩ := px_r1_spec hS
    obtain ⟨x1, av1, e1, h1⟩ := px_i1_spec h0
    obtain ⟨ez, hz⟩ := h1
    subst ez
    subst e1
    subst e0
    exact Nat.le_of_ble_eq_true rfl
  · obtain ⟨x0, av0, e0, h0⟩ := px_r1_spec hS
    obtain ⟨x1, av1, e1, h1⟩ := px_i1_spec h0
    obtain ⟨ez, hz⟩ := h1
    subst ez
    subst e1
    subst e0
    subst hT
    refine px_runG (h - 1) ck_9025 [(9026, Sg_9026 g9026)] [(12, kp_9025_12 (fun y0 y1 y2 τ => oW (f_9025_12 (px_tb C) g9025 g9026 g9027 y0 y1 y2 τ) (fun q => k (some (.inl q.1)) q.2)))] 80 hC (px_sp1 (hg9026) px_nosp) (by omega) (px_cut1 (kq_9025_12 (fun y0 y1 y2 τ hq => by exact rl_9025_12 hn (by omega) hC hg9025 hg9026 hg9027 (y2, τ) hq)) px_nocut) (fun G Jf hG hJf => ?_)
    simp only [F_9025, oW_some, oW_none, oW_bind, oW_map, oW_ite, oW_bn, oW_gd, oW_oA, Sum.elim_inl, Sum.elim_inr, oW_and, true_and, and_true, false_and, and_false, true_or, or_true, false_or, or_false, and_self, or_self, not_false_eq_true, not_true_eq_false, false_implies, forall_const, true_implies, eq_self, ↓reduceIte] at hz
    simp only [↓hG, ↓hJf, ↓px_vc, ↓px_ex, ↓px_jp, ↓px_gi, ↓px_gl, ↓px_gr, ↓px_s1, ↓px_s2, ↓px_nl, ↓px_i1, ↓px_l1, ↓px_r1_o, ↓px_q1, ↓px_i2, ↓px_l2, ↓px_il, ↓px_d0, ↓px_d1, ↓px_d2, ↓px_pop, px_sz, ↓px_sp, ↓px_rd, ↓px_pt, ↓px_rok, ↓px_rv_o, ↓px_fill, ↓px_sl, ↓px_sw, ↓pn_SW, lc_lt, lc_ge, lc_gt, lc_le, lc_eq, ↓reduceIte, Nat.reduceEqDiff, Nat.reduceLeDiff, Nat.reduceAdd, Nat.reduceSub, reduceCtorEq, List.length_cons, List.length_nil, Option.toList_some, Option.toList_none, List.cons_append, List.nil_append, true_and, and_true, false_and, and_false, true_or, or_true, false_or, or_false, and_self, or_self, not_false_eq_true, not_true_eq_false, false_implies, forall_const, true_implies, eq_self, ↓kI_s, ↓kJ_s, ↓kN_s, ↓kO_s, ↓kZ_s, ↓kE_s, oW_and, ↓bk_9025, ↓pn_i9025, oW_some, oW_none, oW_bind, oW_map, oW_ite, oW_bn, oW_gd, oW_oA, Sum.elim_inl, Sum.elim_inr, ↓Sg_9026, ↓kp_9025_12]
    exact hz
/-- NoThree$Reader.readBoth(I)Z -/
noncomputable def F_9026_12 (tab : px_T) (g9025 : px_M → Nat → Int32 → Option (Int32 × px_M)) (g9026 : px_M → Nat → Int32 → Option (Int32 × px_M)) (g9027 : px_M → Nat → Int32 → Option (Int32 × px_M)) (x0 : Nat) (x1 : Int32) (x2 : Int32) (σ : px_M) : Option ((Int32 × px_M) ⊕ (Int32 × px_M)) := if (nI 900) ≤ x2 then (some (.inr (((nI 1), σ)))) else (gd (px_obj (px_lay tab x0) 9) (bn (((σ).1 x0 9) = (nI 2007)) (some (.inr (((nI 1), σ)))) (gd (px_obj (px_lay tab x0) 9) ((f_9015 tab σ x0).bind fun q1 => gd (px_obj (px_lay tab x0) 9) ((g9027 q1 x0 x1).bind fun q2 => bn (q2.1 = nI 0) (gd (px_obj (px_lay tab x0) 9) ((((q2.2).2.2 x0 3)).bind fun n3 => gd (px_obj (px_lay tab n3) 1) ((((q2.2).2.2 n3 1)).bind fun n4 => gd (px_obj (px_lay tab n4) 10) ((f_10004 tab q2.2 n4 ((nI 2007))).bind fun q5 => some (.inl (((x2 + (nI 1)), q5))))))) (some (.inr (((nI 0), q2.2)))))))))
noncomputable def f_9026_12 (tab : px_T) (g9025 : px_M → Nat → Int32 → Option (Int32 × px_M)) (g9026 : px_M → Nat → Int32 → Option (Int32 × px_M)) (g9027 : px_M → Nat → Int32 → Option (Int32 × px_M)) (x0 : Nat) (x1 : Int32) (x2 : Int32) (σ : px_M) : Option (Int32 × px_M) := lpO (fun s : Int32 × px_M => F_9026_12 tab g9025 g9026 g9027 x0 x1 s.1 s.2) (x2, σ)
theorem f_9026_12_eq (tab : px_T) (g9025 : px_M → Nat → Int32 → Option (Int32 × px_M)) (g9026 : px_M → Nat → Int32 → Option (Int32 × px_M)) (g9027 : px_M → Nat → Int32 → Option (Int32 × px_M)) (x0 : Nat) (x1 : Int32) (x2 : Int32) (σ : px_M) : f_9026_12 tab g9025 g9026 g9027 x0 x1 x2 σ = (F_9026_12 tab g9025 g9026 g9027 x0 x1 x2 σ).bind (Sum.elim (fun s => f_9026_12 tab g9025 g9026 g9027 x0 x1 s.1 s.2) some) := lpO_eq _ _
noncomputable def F_9026 (tab : px_T) (g9025 : px_M → Nat → Int32 → Option (Int32 × px_M)) (g9026 : px_M → Nat → Int32 → Option (Int32 × px_M)) (g9027 : px_M → Nat → Int32 → Option (Int32 × px_M)) (σ : px_M) (x0 : Nat) (x1 : Int32) : Option (Int32 × px_M) := gd (px_obj (px_lay tab x0) 9) ((g9027 σ x0 x1).bind fun q1 => bn (q1.1 = nI 0) (f_9026_12 tab g9025 g9026 g9027 x0 x1 ((nI 0)) q1.2) (some (((nI 0), q1.2))))
def Sg_9026 (g : px_M → Nat → Int32 → Option (Int32 × px_M)) : px_S := fun av σ k => px_r1 av (fun x0 av => px_i1 av (fun x1 av => av = [] ∧ oW (g σ x0 x1) (fun q => k (some (.inl q.1)) q.2)))
def kp_9026_12 (Q : Nat → Int32 → Int32 → px_M → Prop) : px_P := fun ls st τ => st = [] ∧ kN ls (fun x0 ls => kI ls (fun x1 ls => kI ls (fun x2 ls => kE ls (Q x0 x1 x2 τ))))
theorem kq_9026_12 {C : px_C} {k : Option px_V → px_M → Prop} {Q : Nat → Int32 → Int32 → px_M → Prop} (H : ∀ (x0 : Nat) (x1 : Int32) (x2 : Int32) (τ : px_M), Q x0 x1 x2 τ → px_W C k 12 [some (.inr (.inr (some x0))), some (.inl x1), some (.inl x2)] [] τ) : ∀ ls st τ, kp_9026_12 Q ls st τ → px_W C k 12 ls st τ := by
  intro ls st τ hz
  obtain ⟨ez, h0⟩ := hz
  obtain ⟨x0, l0, e0, h1⟩ := kN_sp h0
  obtain ⟨x1, l1, e1, h2⟩ := kI_sp h1
  obtain ⟨x2, l2, e2, h3⟩ := kI_sp h2
  obtain ⟨ey, hy⟩ := kE_sp h3
  subst ez
  subst ey
  subst e2
  subst e1
  subst e0
  exact H x0 x1 x2 τ hy
set_option maxHeartbeats 4000000 in
set_option maxRecDepth 100000 in
theorem rl_9026_12 {C : px_C} (hn : ((px_tb C).map Prod.fst).Nodup) {h : Nat} (hh : 65 ≤ h) (hC : px_ok C pn_i9026 h) {g9025 : px_M → Nat → Int32 → Option (Int32 × px_M)} {g9026 : px_M → Nat → Int32 → Option (Int32 × px_M)} {g9027 : px_M → Nat → Int32 → Option (Int32 × px_M)} (hg9025 : px_Ok (px_tb C) pn_i9025 (h - 1) (Sg_9025 g9025)) (hg9026 : px_Ok (px_tb C) pn_i9026 (h - 1) (Sg_9026 g9026)) (hg9027 : px_Ok (px_tb C) pn_i9027 (h - 1) (Sg_9027 g9027)) {k : Option px_V → px_M → Prop} {x0 : Nat} {x1 : Int32} : ∀ s : Int32 × px_M, oW (f_9026_12 (px_tb C) g9025 g9026 g9027 x0 x1 s.1 s.2) (fun q => k (some (.inl q.1)) q.2) → (fun s : Int32 × px_M => px_W C k 12 [some (.inr (.inr (some x0))), some (.inl x1), some (.inl s.1)] [] s.2) s := by
  intro s h0
  refine lpO_sound (P := (fun s : Int32 × px_M => px_W C k 12 [some (.inr (.inr (some x0))), some (.inl x1), some (.inl s.1)] [] s.2)) (fun s hs => ?_) h0
  obtain ⟨x2, σ⟩ := s
  refine px_runG (h - 1) ck_9026 [(9015, Sg_9015 (f_9015 (px_tb C))), (9027, Sg_9027 g9027), (10004, Sg_10004 (f_10004 (px_tb C)))] [(12, kp_9026_12 (fun y0 y1 y2 τ => y0 = x0 ∧ y1 = x1 ∧ (fun s : Int32 × px_M => px_W C k 12 [some (.inr (.inr (some x0))), some (.inl x1), some (.inl s.1)] [] s.2) (y2, τ)))] 80 hC (px_sp1 (mf_9015 hn (by omega)) (px_sp1 (hg9027) (px_sp1 (mf_10004 hn (by omega)) px_nosp))) (by omega) (px_cut1 (kq_9026_12 (fun y0 y1 y2 τ hq => by obtain ⟨rfl, rfl, hq⟩ := hq; exact hq)) px_nocut) (fun G Jf hG hJf => ?_)
  simp only [F_9026_12, oW_some, oW_none, oW_bind, oW_map, oW_ite, oW_bn, oW_gd, oW_oA, Sum.elim_inl, Sum.elim_inr, oW_and, true_and, and_true, false_and, and_false, true_or, or_true, false_or, or_false, and_self, or_self, not_false_eq_true, not_true_eq_false, false_implies, forall_const, true_implies, eq_self, ↓reduceIte] at hs
  simp only [↓hG, ↓hJf, ↓px_vc, ↓px_ex, ↓px_jp, ↓px_gi, ↓px_gl, ↓px_gr, ↓px_s1, ↓px_s2, ↓px_nl, ↓px_i1, ↓px_l1, ↓px_r1_o, ↓px_q1, ↓px_i2, ↓px_l2, ↓px_il, ↓px_d0, ↓px_d1, ↓px_d2, ↓px_pop, px_sz, ↓px_sp, ↓px_rd, ↓px_pt, ↓px_rok, ↓px_rv_o, ↓px_fill, ↓px_sl, ↓px_sw, ↓pn_SW, lc_lt, lc_ge, lc_gt, lc_le, lc_eq, ↓reduceIte, Nat.reduceEqDiff, Nat.reduceLeDiff, Nat.reduceAdd, Nat.reduceSub, reduceCtorEq, List.length_cons, List.length_nil, Option.toList_some, Option.toList_none, List.cons_append, List.nil_append, true_and, and_true, false_and, and_false, true_or, or_true, false_or, or_false, and_self, or_self, not_false_eq_true, not_true_eq_false, false_implies, forall_const, true_implies, eq_self, ↓kI_s, ↓kJ_s, ↓kN_s, ↓kO_s, ↓kZ_s, ↓kE_s, oW_and, ↓bk_9026, ↓pn_i9026, oW_some, oW_none, oW_bind, oW_map, oW_ite, oW_bn, oW_gd, oW_oA, Sum.elim_inl, Sum.elim_inr, ↓Sg_9015, ↓Sg_9027, ↓Sg_10004, ↓kp_9026_12]
  exact hs
set_option maxHeartbeats 4000000 in
set_option maxRecDepth 100000 in
theorem mF_9026 {tab : px_T} (hn : (tab.map Prod.fst).Nodup) {h : Nat} (hh : 65 ≤ h) {g9025 : px_M → Nat → Int32 → Option (Int32 × px_M)} {g9026 : px_M → Nat → Int32 → Option (Int32 × px_M)} {g9027 : px_M → Nat → Int32 → Option (Int32 × px_M)} (hg9025 : px_Ok tab pn_i9025 (h - 1) (Sg_9025 g9025)) (hg9026 : px_Ok tab pn_i9026 (h - 1) (Sg_9026 g9026)) (hg9027 : px_Ok tab pn_i9027 (h - 1) (Sg_9027 g9027)) : px_Ok tab pn_i9026 h (Sg_9026 (F_9026 tab g9025 g9026 g9027)) := by
  refine px_mth hn (by decide +kernel) (fun av σ k hS => ?_) (fun C hT hC av σ k hS => ?_)
  · obtain ⟨x0, av0, e0, h0⟩ := px_r1_spec hS
    obtain ⟨x1, av1, e1, h1⟩ := px_i1_spec h0
    obtain ⟨ez, hz⟩ := h1
    subst ez
    subst e1
    subst e0
    exact Nat.le_of_ble_eq_true rfl
  · obtain ⟨x0, av0, e0, h0⟩ := px_r1_spec hS
    obtain ⟨x1, av1, e1, h1⟩ := px_i1_spec h0
    obtain ⟨ez, hz⟩ := h1
    subst ez
    subst e1
    subst e0
    subst hT
    refine px_runG (h - 1) ck_9026 [(9027, Sg_9027 g9027)] [(12, kp_9026_12 (fun y0 y1 y2 τ => oW (f_9026_12 (px_tb C) g9025 g9026 g9027 y0 y1 y2 τ) (fun q => k (some (.inl q.1)) q.2)))] 80 hC (px_sp1 (hg9027) px_nosp) (by omega) (px_cut1 (kq_9026_12 (fun y0 y1 y2 τ hq => by exact rl_9026_12 hn (by omega) hC hg9025 hg9026 hg9027 (y2, τ) hq)) px_nocut) (fun G Jf hG hJf => ?_)
    simp only [F_9026, oW_some, oW_none, oW_bind, oW_map, oW_ite, oW_bn, oW_gd, oW_oA, Sum.elim_inl, Sum.elim_inr, oW_and, true_and, and_true, false_and, and_false, true_or, or_true, false_or, or_false, and_self, or_self, not_false_eq_true, not_true_eq_false, false_implies, forall_const, true_implies, eq_self, ↓reduceIte] at hz
    simp only [↓hG, ↓hJf, ↓px_vc, ↓px_ex, ↓px_jp, ↓px_gi, ↓px_gl, ↓px_gr, ↓px_s1, ↓px_s2, ↓px_nl, ↓px_i1, ↓px_l1, ↓px_r1_o, ↓px_q1, ↓px_i2, ↓px_l2, ↓px_il, ↓px_d0, ↓px_d1, ↓px_d2, ↓px_pop, px_sz, ↓px_sp, ↓px_rd, ↓px_pt, ↓px_rok, ↓px_rv_o, ↓px_fill, ↓px_sl, ↓px_sw, ↓pn_SW, lc_lt, lc_ge, lc_gt, lc_le, lc_eq, ↓reduceIte, Nat.reduceEqDiff, Nat.reduceLeDiff, Nat.reduceAdd, Nat.reduceSub, reduceCtorEq, List.length_cons, List.length_nil, Option.toList_some, Option.toList_none, List.cons_append, List.nil_append, true_and, and_true, false_and, and_false, true_or, or_true, false_or, or_false, and_self, or_self, not_false_eq_true, not_true_eq_false, false_implies, forall_const, true_implies, eq_self, ↓kI_s, ↓kJ_s, ↓kN_s, ↓kO_s, ↓kZ_s, ↓kE_s, oW_and, ↓bk_9026, ↓pn_i9026, oW_some, oW_none, oW_bind, oW_map, oW_ite, oW_bn, oW_gd, oW_oA, Sum.elim_inl, Sum.elim_inr, ↓Sg_9027, ↓kp_9026_12]
    exact hz
/-- NoThree$Reader.readUnit(I)Z -/
noncomputable def f_9027_80 (tab : px_T) (g9025 : px_M → Nat → Int32 → Option (Int32 × px_M)) (g9026 : px_M → Nat → Int32 → Option (Int32 × px_M)) (g9027 : px_M → Nat → Int32 → Option (Int32 × px_M)) (σ : px_M) : Option (Int32 × px_M) := some (((nI 0), σ))
noncomputable def f_9027_36 (tab : px_T) (g9025 : px_M → Nat → Int32 → Option (Int32 × px_M)) (g9026 : px_M → Nat → Int32 → Option (Int32 × px_M)) (g9027 : px_M → Nat → Int32 → Option (Int32 × px_M)) (σ : px_M) (x0 : Nat) (x1 : Int32) (x2 : Int32) : Option (Int32 × px_M) := if x1 < (nI 6) then (gd (px_obj (px_lay tab x0) 9) ((f_9015 tab σ x0).bind fun q1 => bn (x2 = nI 0) (gd (px_obj (px_lay tab x0) 9) ((g9027 q1 x0 ((x1 + (nI 1)))).bind fun q2 => bn (q2.1 = nI 0) (gd (px_obj (px_lay tab x0) 9) ((((q2.2).2.2 x0 3)).bind fun n3 => gd (px_obj (px_lay tab n3) 1) ((((q2.2).2.2 n3 1)).bind fun n4 => gd (px_obj (px_lay tab n4) 10) ((f_10004 tab q2.2 n4 ((nI 2006))).bind fun q5 => some (((nI 1), q5)))))) (some (((nI 0), q2.2))))) (gd (px_obj (px_lay tab x0) 9) ((g9025 q1 x0 ((x1 + (nI 1)))).bind fun q6 => if q6.1 = nI 0 then (f_9027_80 tab g9025 g9026 g9027 q6.2) else (gd (px_obj (px_lay tab x0) 9) ((f_9019 tab q6.2 x0 ((nI 4093))).bind fun q7 => if q7.1 = nI 0 then (f_9027_80 tab g9025 g9026 g9027 q7.2) else (some (((nI 1), q7.2))))))))) else (gd (px_obj (px_lay tab x0) 9) ((f_9018 tab σ x0 ((nI 4))).bind fun q8 => gd (q8.1 = nI 0 ∨ q8.1 = nI 1) (some ((q8.1, q8.2)))))
noncomputable def F_9027 (tab : px_T) (g9025 : px_M → Nat → Int32 → Option (Int32 × px_M)) (g9026 : px_M → Nat → Int32 → Option (Int32 × px_M)) (g9027 : px_M → Nat → Int32 → Option (Int32 × px_M)) (σ : px_M) (x0 : Nat) (x1 : Int32) : Option (Int32 × px_M) := gd (px_obj (px_lay tab x0) 9) (bn (((σ).1 x0 9) = (nI 2006)) (bn ((nI 0) = nI 0) (f_9027_36 tab g9025 g9026 g9027 σ x0 x1 ((nI 0))) (gd (px_obj (px_lay tab x0) 9) (if ((σ).1 x0 9) = (nI 4091) then (f_9027_36 tab g9025 g9026 g9027 σ x0 x1 ((nI 0))) else (gd (px_obj (px_lay tab x0) 9) ((f_9028 tab σ x0 x1).bind fun q1 => gd (q1.1 = nI 0 ∨ q1.1 = nI 1) (some ((q1.1, q1.2)))))))) (bn ((nI 1) = nI 0) (f_9027_36 tab g9025 g9026 g9027 σ x0 x1 ((nI 1))) (gd (px_obj (px_lay tab x0) 9) (if ((σ).1 x0 9) = (nI 4091) then (f_9027_36 tab g9025 g9026 g9027 σ x0 x1 ((nI 1))) else (gd (px_obj (px_lay tab x0) 9) ((f_9028 tab σ x0 x1).bind fun q2 => gd (q2.1 = nI 0 ∨ q2.1 = nI 1) (some ((q2.1, q2.2)))))))))
def Sg_9027 (g : px_M → Nat → Int32 → Option (Int32 × px_M)) : px_S := fun av σ k => px_r1 av (fun x0 av => px_i1 av (fun x1 av => av = [] ∧ oW (g σ x0 x1) (fun q => k (some (.inl q.1)) q.2)))
def kp_9027_80 (Q : px_M → Prop) : px_P := fun ls st τ => st = [] ∧ kZ ls (fun ls => kZ ls (fun ls => kZ ls (fun ls => kE ls (Q τ))))
theorem kq_9027_80 {C : px_C} {k : Option px_V → px_M → Prop} {Q : px_M → Prop} (H : ∀ (τ : px_M), Q τ → ∀ (z0 : Option px_V) (z1 : Option px_V) (z2 : Option px_V), px_W C k 80 [z0, z1, z2] [] τ) : ∀ ls st τ, kp_9027_80 Q ls st τ → px_W C k 80 ls st τ := by
  intro ls st τ hz
  obtain ⟨ez, h0⟩ := hz
  obtain ⟨z0, l0, e0, h1⟩ := kZ_sp h0
  obtain ⟨z1, l1, e1, h2⟩ := kZ_sp h1
  obtain ⟨z2, l2, e2, h3⟩ := kZ_sp h2
  obtain ⟨ey, hy⟩ := kE_sp h3
  subst ez
  subst ey
  subst e2
  subst e1
  subst e0
  exact H τ hy z0 z1 z2
def kp_9027_36 (Q : Nat → Int32 → Int32 → px_M → Prop) : px_P := fun ls st τ => st = [] ∧ kN ls (fun x0 ls => kI ls (fun x1 ls => kI ls (fun x2 ls => kE ls (Q x0 x1 x2 τ))))
theorem kq_9027_36 {C : px_C} {k : Option px_V → px_M → Prop} {Q : Nat → Int32 → Int32 → px_M → Prop} (H : ∀ (x0 : Nat) (x1 : Int32) (x2 : Int32) (τ : px_M), Q x0 x1 x2 τ → px_W C k 36 [some (.inr (.inr (some x0))), some (.inl x1), some (.inl x2)] [] τ) : ∀ ls st τ, kp_9027_36 Q ls st τ → px_W C k 36 ls st τ := by
  intro ls st τ hz
  obtain ⟨ez, h0⟩ := hz
  obtain ⟨x0, l0, e0, h1⟩ := kN_sp h0
  obtain ⟨x1, l1, e1, h2⟩ := kI_sp h1
  obtain ⟨x2, l2, e2, h3⟩ := kI_sp h2
  obtain ⟨ey, hy⟩ := kE_sp h3
  subst ez
  subst ey
  subst e2
  subst e1
  subst e0
  exact H x0 x1 x2 τ hy
set_option maxHeartbeats 4000000 in
set_option maxRecDepth 100000 in
theorem rl_9027_80 {C : px_C} (hn : ((px_tb C).map Prod.fst).Nodup) {h : Nat} (hh : 65 ≤ h) (hC : px_ok C pn_i9027 h) {g9025 : px_M → Nat → Int32 → Option (Int32 × px_M)} {g9026 : px_M → Nat → Int32 → Option (Int32 × px_M)} {g9027 : px_M → Nat → Int32 → Option (Int32 × px_M)} (hg9025 : px_Ok (px_tb C) pn_i9025 (h - 1) (Sg_9025 g9025)) (hg9026 : px_Ok (px_tb C) pn_i9026 (h - 1) (Sg_9026 g9026)) (hg9027 : px_Ok (px_tb C) pn_i9027 (h - 1) (Sg_9027 g9027)) {k : Option px_V → px_M → Prop} {σ : px_M} (hs : oW (f_9027_80 (px_tb C) g9025 g9026 g9027 σ) (fun q => k (some (.inl q.1)) q.2)) : ∀ (z0 : Option px_V) (z1 : Option px_V) (z2 : Option px_V), px_W C k 80 [z0, z1, z2] [] σ := by
  intro z0 z1 z2
  refine px_runG (h - 1) ck_9027 [] [] 80 hC px_nosp (by omega) px_nocut (fun G Jf hG hJf => ?_)
  simp only [f_9027_80, oW_some, oW_none, oW_bind, oW_map, oW_ite, oW_bn, oW_gd, oW_oA, Sum.elim_inl, Sum.elim_inr, oW_and, true_and, and_true, false_and, and_false, true_or, or_true, false_or, or_false, and_self, or_self, not_false_eq_true, not_true_eq_false, false_implies, forall_const, true_implies, eq_self, ↓reduceIte] at hs
  simp only [↓hG, ↓hJf, ↓px_vc, ↓px_ex, ↓px_jp, ↓px_gi, ↓px_gl, ↓px_gr, ↓px_s1, ↓px_s2, ↓px_nl, ↓px_i1, ↓px_l1, ↓px_r1_o, ↓px_q1, ↓px_i2, ↓px_l2, ↓px_il, ↓px_d0, ↓px_d1, ↓px_d2, ↓px_pop, px_sz, ↓px_sp, ↓px_rd, ↓px_pt, ↓px_rok, ↓px_rv_o, ↓px_fill, ↓px_sl, ↓px_sw, ↓pn_SW, lc_lt, lc_ge, lc_gt, lc_le, lc_eq, ↓reduceIte, Nat.reduceEqDiff, Nat.reduceLeDiff, Nat.reduceAdd, Nat.reduceSub, reduceCtorEq, List.length_cons, List.length_nil, Option.toList_some, Option.toList_none, List.cons_append, List.nil_append, true_and, and_true, false_and, and_false, true_or, or_true, false_or, or_false, and_self, or_self, not_false_eq_true, not_true_eq_false, false_implies, forall_const, true_implies, eq_self, ↓kI_s, ↓kJ_s, ↓kN_s, ↓kO_s, ↓kZ_s, ↓kE_s, oW_and, ↓bk_9027, ↓pn_i9027, oW_some, oW_none, oW_bind, oW_map, oW_ite, oW_bn, oW_gd, oW_oA, Sum.elim_inl, Sum.elim_inr]
  exact hs
set_option maxHeartbeats 4000000 in
set_option maxRecDepth 100000 in
theorem rl_9027_36 {C : px_C} (hn : ((px_tb C).map Prod.fst).Nodup) {h : Nat} (hh : 65 ≤ h) (hC : px_ok C pn_i9027 h) {g9025 : px_M → Nat → Int32 → Option (Int32 × px_M)} {g9026 : px_M → Nat → Int32 → Option (Int32 × px_M)} {g9027 : px_M → Nat → Int32 → Option (Int32 × px_M)} (hg9025 : px_Ok (px_tb C) pn_i9025 (h - 1) (Sg_9025 g9025)) (hg9026 : px_Ok (px_tb C) pn_i9026 (h - 1) (Sg_9026 g9026)) (hg9027 : px_Ok (px_tb C) pn_i9027 (h - 1) (Sg_9027 g9027)) {k : Option px_V → px_M → Prop} {x0 : Nat} {x1 : Int32} {x2 : Int32} {σ : px_M} (hs : oW (f_9027_36 (px_tb C) g9025 g9026 g9027 σ x0 x1 x2) (fun q => k (some (.inl q.1)) q.2)) : px_W C k 36 [some (.inr (.inr (some x0))), some (.inl x1), some (.inl x2)] [] σ := by
  refine px_runG (h - 1) ck_9027 [(9015, Sg_9015 (f_9015 (px_tb C))), (9018, Sg_9018 (f_9018 (px_tb C))), (9019, Sg_9019 (f_9019 (px_tb C))), (9025, Sg_9025 g9025), (9027, Sg_9027 g9027), (10004, Sg_10004 (f_10004 (px_tb C)))] [(80, kp_9027_80 (fun τ => oW (f_9027_80 (px_tb C) g9025 g9026 g9027 τ) (fun q => k (some (.inl q.1)) q.2)))] 80 hC (px_sp1 (mf_9015 hn (by omega)) (px_sp1 (mf_9018 hn (by omega)) (px_sp1 (mf_9019 hn (by omega)) (px_sp1 (hg9025) (px_sp1 (hg9027) (px_sp1 (mf_10004 hn (by omega)) px_nosp)))))) (by omega) (px_cut1 (kq_9027_80 (fun τ hq => by exact rl_9027_80 hn (by omega) hC hg9025 hg9026 hg9027  hq)) px_nocut) (fun G Jf hG hJf => ?_)
  simp only [f_9027_36, oW_some, oW_none, oW_bind, oW_map, oW_ite, oW_bn, oW_gd, oW_oA, Sum.elim_inl, Sum.elim_inr, oW_and, true_and, and_true, false_and, and_false, true_or, or_true, false_or, or_false, and_self, or_self, not_false_eq_true, not_true_eq_false, false_implies, forall_const, true_implies, eq_self, ↓reduceIte] at hs
  simp only [↓hG, ↓hJf, ↓px_vc, ↓px_ex, ↓px_jp, ↓px_gi, ↓px_gl, ↓px_gr, ↓px_s1, ↓px_s2, ↓px_nl, ↓px_i1, ↓px_l1, ↓px_r1_o, ↓px_q1, ↓px_i2, ↓px_l2, ↓px_il, ↓px_d0, ↓px_d1, ↓px_d2, ↓px_pop, px_sz, ↓px_sp, ↓px_rd, ↓px_pt, ↓px_rok, ↓px_rv_o, ↓px_fill, ↓px_sl, ↓px_sw, ↓pn_SW, lc_lt, lc_ge, lc_gt, lc_le, lc_eq, ↓reduceIte, Nat.reduceEqDiff, Nat.reduceLeDiff, Nat.reduceAdd, Nat.reduceSub, reduceCtorEq, List.length_cons, List.length_nil, Option.toList_some, Option.toList_none, List.cons_append, List.nil_append, true_and, and_true, false_and, and_false, true_or, or_true, false_or, or_false, and_self, or_self, not_false_eq_true, not_true_eq_false, false_implies, forall_const, true_implies, eq_self, ↓kI_s, ↓kJ_s, ↓kN_s, ↓kO_s, ↓kZ_s, ↓kE_s, oW_and, ↓bk_9027, ↓pn_i9027, oW_some, oW_none, oW_bind, oW_map, oW_ite, oW_bn, oW_gd, oW_oA, Sum.elim_inl, Sum.elim_inr, ↓Sg_9015, ↓Sg_9018, ↓Sg_9019, ↓Sg_9025, ↓Sg_9027, ↓Sg_10004, ↓kp_9027_80]
  exact hs
set_option maxHeartbeats 4000000 in
set_option maxRecDepth 100000 in
theorem mF_9027 {tab : px_T} (hn : (tab.map Prod.fst).Nodup) {h : Nat} (hh : 65 ≤ h) {g9025 : px_M → Nat → Int32 → Option (Int32 × px_M)} {g9026 : px_M → Nat → Int32 → Option (Int32 × px_M)} {g9027 : px_M → Nat → Int32 → Option (Int32 × px_M)} (hg9025 : px_Ok tab pn_i9025 (h - 1) (Sg_9025 g9025)) (hg9026 : px_Ok tab pn_i9026 (h - 1) (Sg_9026 g9026)) (hg9027 : px_Ok tab pn_i9027 (h - 1) (Sg_9027 g9027)) : px_Ok tab pn_i9027 h (Sg_9027 (F_9027 tab g9025 g9026 g9027)) := by
  refine px_mth hn (by decide +kernel) (fun av σ k hS => ?_) (fun C hT hC av σ k hS => ?_)
  · obtain ⟨x0, av0, e0, h0⟩ := px_r1_spec hS
    obtain ⟨x1, av1, e1, h1⟩ := px_i1_spec h0
    obtain ⟨ez, hz⟩ := h1
    subst ez
    subst e1
    subst e0
    exact Nat.le_of_ble_eq_true rfl
  · obtain ⟨x0, av0, e0, h0⟩ := px_r1_spec hS
    obtain ⟨x1, av1, e1, h1⟩ := px_i1_spec h0
    obtain ⟨ez, hz⟩ := h1
    subst ez
    subst e1
    subst e0
    subst hT
    refine px_runG (h - 1) ck_9027 [(9028, Sg_9028 (f_9028 (px_tb C)))] [(36, kp_9027_36 (fun y0 y1 y2 τ => oW (f_9027_36 (px_tb C) g9025 g9026 g9027 τ y0 y1 y2) (fun q => k (some (.inl q.1)) q.2)))] 80 hC (px_sp1 (mf_9028 hn (by omega)) px_nosp) (by omega) (px_cut1 (kq_9027_36 (fun y0 y1 y2 τ hq => by exact rl_9027_36 hn (by omega) hC hg9025 hg9026 hg9027  hq)) px_nocut) (fun G Jf hG hJf => ?_)
    simp only [F_9027, oW_some, oW_none, oW_bind, oW_map, oW_ite, oW_bn, oW_gd, oW_oA, Sum.elim_inl, Sum.elim_inr, oW_and, true_and, and_true, false_and, and_false, true_or, or_true, false_or, or_false, and_self, or_self, not_false_eq_true, not_true_eq_false, false_implies, forall_const, true_implies, eq_self, ↓reduceIte] at hz
    simp only [↓hG, ↓hJf, ↓px_vc, ↓px_ex, ↓px_jp, ↓px_gi, ↓px_gl, ↓px_gr, ↓px_s1, ↓px_s2, ↓px_nl, ↓px_i1, ↓px_l1, ↓px_r1_o, ↓px_q1, ↓px_i2, ↓px_l2, ↓px_il, ↓px_d0, ↓px_d1, ↓px_d2, ↓px_pop, px_sz, ↓px_sp, ↓px_rd, ↓px_pt, ↓px_rok, ↓px_rv_o, ↓px_fill, ↓px_sl, ↓px_sw, ↓pn_SW, lc_lt, lc_ge, lc_gt, lc_le, lc_eq, ↓reduceIte, Nat.reduceEqDiff, Nat.reduceLeDiff, Nat.reduceAdd, Nat.reduceSub, reduceCtorEq, List.length_cons, List.length_nil, Option.toList_some, Option.toList_none, List.cons_append, List.nil_append, true_and, and_true, false_and, and_false, true_or, or_true, false_or, or_false, and_self, or_self, not_false_eq_true, not_true_eq_false, false_implies, forall_const, true_implies, eq_self, ↓kI_s, ↓kJ_s, ↓kN_s, ↓kO_s, ↓kZ_s, ↓kE_s, oW_and, ↓bk_9027, ↓pn_i9027, oW_some, oW_none, oW_bind, oW_map, oW_ite, oW_bn, oW_gd, oW_oA, Sum.elim_inl, Sum.elim_inr, ↓Sg_9028, ↓kp_9027_36]
    exact hz
noncomputable def fr_9025 (tab : px_T) : Nat → (px_M → Nat → Int32 → Option (Int32 × px_M)) × (px_M → Nat → Int32 → Option (Int32 × px_M)) × (px_M → Nat → Int32 → Option (Int32 × px_M))
  | 0 => (fun _ _ _ => none, fun _ _ _ => none, fun _ _ _ => none)
  | d + 1 => (F_9025 tab ((fr_9025 tab d).1) ((fr_9025 tab d).2.1) ((fr_9025 tab d).2.2), F_9026 tab ((fr_9025 tab d).1) ((fr_9025 tab d).2.1) ((fr_9025 tab d).2.2), F_9027 tab ((fr_9025 tab d).1) ((fr_9025 tab d).2.1) ((fr_9025 tab d).2.2))
noncomputable def f_9025 (tab : px_T) (d : Nat) : px_M → Nat → Int32 → Option (Int32 × px_M) := (fr_9025 tab d).1
noncomputable def f_9026 (tab : px_T) (d : Nat) : px_M → Nat → Int32 → Option (Int32 × px_M) := (fr_9025 tab d).2.1
noncomputable def f_9027 (tab : px_T) (d : Nat) : px_M → Nat → Int32 → Option (Int32 × px_M) := (fr_9025 tab d).2.2
theorem f_9025_S (tab : px_T) (d : Nat) : f_9025 tab (d + 1) = F_9025 tab (f_9025 tab d) (f_9026 tab d) (f_9027 tab d) := rfl
theorem f_9026_S (tab : px_T) (d : Nat) : f_9026 tab (d + 1) = F_9026 tab (f_9025 tab d) (f_9026 tab d) (f_9027 tab d) := rfl
theorem f_9027_S (tab : px_T) (d : Nat) : f_9027 tab (d + 1) = F_9027 tab (f_9025 tab d) (f_9026 tab d) (f_9027 tab d) := rfl
theorem mr_f9025 {tab : px_T} (hn : (tab.map Prod.fst).Nodup) : ∀ (d h : Nat), 64 + d ≤ h → px_Ok tab pn_i9025 h (Sg_9025 (f_9025 tab d)) ∧ px_Ok tab pn_i9026 h (Sg_9026 (f_9026 tab d)) ∧ px_Ok tab pn_i9027 h (Sg_9027 (f_9027 tab d)) := by
  intro d
  induction d with
  | zero =>
    intro h hh
    exact ⟨px_Ok_no (fun av σ k h0 => by obtain ⟨x0, av0, -, h1⟩ := px_r1_spec h0; obtain ⟨x1, av1, -, h2⟩ := px_i1_spec h1; exact h2.2.elim), px_Ok_no (fun av σ k h0 => by obtain ⟨x0, av0, -, h1⟩ := px_r1_spec h0; obtain ⟨x1, av1, -, h2⟩ := px_i1_spec h1; exact h2.2.elim), px_Ok_no (fun av σ k h0 => by obtain ⟨x0, av0, -, h1⟩ := px_r1_spec h0; obtain ⟨x1, av1, -, h2⟩ := px_i1_spec h1; exact h2.2.elim)⟩
  | succ d ih =>
    intro h hh
    obtain ⟨h9025, h9026, h9027⟩ := ih (h - 1) (by omega)
    exact ⟨mF_9025 hn (by omega) h9025 h9026 h9027, mF_9026 hn (by omega) h9025 h9026 h9027, mF_9027 hn (by omega) h9025 h9026 h9027⟩
theorem mf_9025 {tab : px_T} (hn : (tab.map Prod.fst).Nodup) {h d : Nat} (hh : 64 + d ≤ h) : px_Ok tab pn_i9025 h (Sg_9025 (f_9025 tab d)) := (mr_f9025 hn d h hh).1
theorem mf_9026 {tab : px_T} (hn : (tab.map Prod.fst).Nodup) {h d : Nat} (hh : 64 + d ≤ h) : px_Ok tab pn_i9026 h (Sg_9026 (f_9026 tab d)) := (mr_f9025 hn d h hh).2.1
theorem mf_9027 {tab : px_T} (hn : (tab.map Prod.fst).Nodup) {h d : Nat} (hh : 64 + d ≤ h) : px_Ok tab pn_i9027 h (Sg_9027 (f_9027 tab d)) := (mr_f9025 hn d h hh).2.2
