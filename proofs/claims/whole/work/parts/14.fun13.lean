/-! shallow functions, printed by wip/whole/decomp.py -/
/-- NoThreeModel.atRest(I)I -/
noncomputable def f_124 (tab : px_T) (σ : px_M) (x0 : Nat) (x1 : Int32) : Option (Int32 × px_M) := gd (px_obj (px_lay tab x0) 0) ((f_2 tab (px_wi σ x0 0 (nI 0)) ((x1).toInt64) ((lN 0)) ((lN 99))).bind fun r1 => bn (r1 = nI 0) (gd (px_obj (px_lay tab x0) 0) ((f_123 tab (px_wi σ x0 0 (nI 0)) x0 x1 ((nI 0))).bind fun q2 => if q2.1 = nI 0 then (some (((nI 1), q2.2))) else (some (((nI 0), q2.2))))) (some (((-3), (px_wi σ x0 0 (nI 0))))))
def Sg_124 (g : px_M → Nat → Int32 → Option (Int32 × px_M)) : px_S := fun av σ k => px_r1 av (fun x0 av => px_i1 av (fun x1 av => av = [] ∧ oW (g σ x0 x1) (fun q => k (some (.inl q.1)) q.2)))
set_option maxHeartbeats 4000000 in
set_option maxRecDepth 100000 in
theorem mf_124 {tab : px_T} (hn : (tab.map Prod.fst).Nodup) {h : Nat} (hh : 35 ≤ h) : px_Ok tab pn_i124 h (Sg_124 (f_124 tab)) := by
  refine px_mth hn (by decide +kernel) (fun av σ k hS => ?_) (fun C hT hC av σ k hS => ?_)
  · obtain ⟨x0, av0, e0, h0⟩ := px_r1_spec hS
    obtain ⟨x1, av1, e1, h1⟩ := px_i1_spec h0
    obtain ⟨ez, hz⟩ := h1
    subst ez
    subst e1
    subst e0
    exact Nat.le_of_ble_eq_true rfl
  · obtain ⟨x0, av0, e0, h0⟩ := px_r1_spec hS
    obtain ⟨x1, av1, e1, h1⟩ := px_i1_spec h0
    obtain ⟨ez, hz⟩ := h1
    subst ez
    subst e1
    subst e0
    subst hT
    refine px_runG (h - 1) ck_124 [(2, Sg_2 (f_2 (px_tb C))), (123, Sg_123 (f_123 (px_tb C)))] [] 80 hC (px_sp1 (mf_2 hn (by omega)) (px_sp1 (mf_123 hn (by omega)) px_nosp)) (by omega) px_nocut (fun G Jf hG hJf => ?_)
    simp only [f_124, oW_some, oW_none, oW_bind, oW_map, oW_ite, oW_bn, oW_gd, oW_oA, Sum.elim_inl, Sum.elim_inr, oW_and, true_and, and_true, false_and, and_false, true_or, or_true, false_or, or_false, and_self, or_self, not_false_eq_true, not_true_eq_false, false_implies, forall_const, true_implies, eq_self, ↓reduceIte] at hz
    simp only [↓hG, ↓hJf, ↓px_vc, ↓px_ex, ↓px_jp, ↓px_gi, ↓px_gl, ↓px_gr, ↓px_s1, ↓px_s2, ↓px_nl, ↓px_i1, ↓px_l1, ↓px_r1_o, ↓px_q1, ↓px_i2, ↓px_l2, ↓px_il, ↓px_d0, ↓px_d1, ↓px_d2, ↓px_pop, px_sz, ↓px_sp, ↓px_rd, ↓px_pt, ↓px_rok, ↓px_rv_o, ↓px_fill, ↓px_sl, ↓px_sw, ↓pn_SW, lc_lt, lc_ge, lc_gt, lc_le, lc_eq, ↓reduceIte, Nat.reduceEqDiff, Nat.reduceLeDiff, Nat.reduceAdd, Nat.reduceSub, reduceCtorEq, List.length_cons, List.length_nil, Option.toList_some, Option.toList_none, List.cons_append, List.nil_append, true_and, and_true, false_and, and_false, true_or, or_true, false_or, or_false, and_self, or_self, not_false_eq_true, not_true_eq_false, false_implies, forall_const, true_implies, eq_self, ↓kI_s, ↓kJ_s, ↓kN_s, ↓kO_s, ↓kZ_s, ↓kE_s, oW_and, ↓bk_124, ↓pn_i124, oW_some, oW_none, oW_bind, oW_map, oW_ite, oW_bn, oW_gd, oW_oA, Sum.elim_inl, Sum.elim_inr, ↓Sg_2, ↓Sg_123]
    exact hz
/-- NoThreeModel.changing(II)I -/
noncomputable def f_125_88 (tab : px_T) (σ : px_M) (x0 : Nat) (x2 : Int32) (x3 : Int32) (x4 : Int32) (x5 : Int32) : Option (Int32 × px_M) := gd (px_obj (px_lay tab x0) 0) (gd (px_obj (px_lay tab x0) 0) ((((σ).2.2 x0 18)).bind fun n1 => (f_53 tab σ x0 n1).bind fun q2 => bn (x2 = nI 0) (bn (x2 = (nI 1)) (some ((x5, q2))) (some ((x4, q2)))) (some ((x3, q2)))))
noncomputable def F_125_45 (tab : px_T) (x0 : Nat) (x1 : Int32) (x2 : Int32) (x3 : Int32) (σ : px_M) : Option ((Int32 × px_M) ⊕ (Int32 × px_M)) := if (nI 60) ≤ x3 then (gd (px_obj (px_lay tab x0) 0) ((f_45 tab σ x0).bind fun r1 => gd (px_obj (px_lay tab x0) 0) ((f_123 tab σ x0 x1 ((nI 0))).bind fun q2 => if q2.1 = nI 0 then (Option.map Sum.inr (f_125_88 tab q2.2 x0 x2 x3 r1 ((nI 1)))) else (Option.map Sum.inr (f_125_88 tab q2.2 x0 x2 x3 r1 ((nI 0))))))) else (gd (px_obj (px_lay tab x0) 0) ((f_123 tab σ x0 x1 ((nI 1))).bind fun q3 => if q3.1 = nI 0 then (gd (px_obj (px_lay tab x0) 0) ((f_45 tab q3.2 x0).bind fun r4 => gd (px_obj (px_lay tab x0) 0) ((f_123 tab q3.2 x0 x1 ((nI 0))).bind fun q5 => if q5.1 = nI 0 then (Option.map Sum.inr (f_125_88 tab q5.2 x0 x2 x3 r4 ((nI 1)))) else (Option.map Sum.inr (f_125_88 tab q5.2 x0 x2 x3 r4 ((nI 0))))))) else (some (.inl (((x3 + (nI 1)), q3.2))))))
noncomputable def f_125_45 (tab : px_T) (x0 : Nat) (x1 : Int32) (x2 : Int32) (x3 : Int32) (σ : px_M) : Option (Int32 × px_M) := lpO (fun s : Int32 × px_M => F_125_45 tab x0 x1 x2 s.1 s.2) (x3, σ)
theorem f_125_45_eq (tab : px_T) (x0 : Nat) (x1 : Int32) (x2 : Int32) (x3 : Int32) (σ : px_M) : f_125_45 tab x0 x1 x2 x3 σ = (F_125_45 tab x0 x1 x2 x3 σ).bind (Sum.elim (fun s => f_125_45 tab x0 x1 x2 s.1 s.2) some) := lpO_eq _ _
noncomputable def f_125 (tab : px_T) (σ : px_M) (x0 : Nat) (x1 : Int32) (x2 : Int32) : Option (Int32 × px_M) := gd (px_obj (px_lay tab x0) 0) ((f_2 tab (px_wi σ x0 0 (nI 0)) ((x2).toInt64) ((lN 0)) ((lN 2))).bind fun r1 => bn (r1 = nI 0) ((f_2 tab (px_wi σ x0 0 (nI 0)) ((x1).toInt64) ((lN 0)) ((lN 99))).bind fun r2 => bn (r2 = nI 0) (gd (px_obj (px_lay tab x0) 0) (gd (px_obj (px_lay tab x0) 0) (((((px_wi σ x0 0 (nI 0))).2.2 x0 18)).bind fun n3 => (f_52 tab (px_wi σ x0 0 (nI 0)) x0 n3).bind fun q4 => f_125_45 tab x0 x1 x2 ((nI 0)) q4))) (some (((-3), (px_wi σ x0 0 (nI 0)))))) (some (((-2), (px_wi σ x0 0 (nI 0))))))
def Sg_125 (g : px_M → Nat → Int32 → Int32 → Option (Int32 × px_M)) : px_S := fun av σ k => px_r1 av (fun x0 av => px_i1 av (fun x1 av => px_i1 av (fun x2 av => av = [] ∧ oW (g σ x0 x1 x2) (fun q => k (some (.inl q.1)) q.2))))
def kp_125_88 (Q : Nat → Int32 → Int32 → Int32 → Int32 → px_M → Prop) : px_P := fun ls st τ => st = [] ∧ kN ls (fun x0 ls => kZ ls (fun ls => kI ls (fun x2 ls => kI ls (fun x3 ls => kI ls (fun x4 ls => kI ls (fun x5 ls => kE ls (Q x0 x2 x3 x4 x5 τ)))))))
theorem kq_125_88 {C : px_C} {k : Option px_V → px_M → Prop} {Q : Nat → Int32 → Int32 → Int32 → Int32 → px_M → Prop} (H : ∀ (x0 : Nat) (x2 : Int32) (x3 : Int32) (x4 : Int32) (x5 : Int32) (τ : px_M), Q x0 x2 x3 x4 x5 τ → ∀ (z1 : Option px_V), px_W C k 88 [some (.inr (.inr (some x0))), z1, some (.inl x2), some (.inl x3), some (.inl x4), some (.inl x5)] [] τ) : ∀ ls st τ, kp_125_88 Q ls st τ → px_W C k 88 ls st τ := by
  intro ls st τ hz
  obtain ⟨ez, h0⟩ := hz
  obtain ⟨x0, l0, e0, h1⟩ := kN_sp h0
  obtain ⟨z1, l1, e1, h2⟩ := kZ_sp h1
  obtain ⟨x2, l2, e2, h3⟩ := kI_sp h2
  obtain ⟨x3, l3, e3, h4⟩ := kI_sp h3
  obtain ⟨x4, l4, e4, h5⟩ := kI_sp h4
  obtain ⟨x5, l5, e5, h6⟩ := kI_sp h5
  obtain ⟨ey, hy⟩ := kE_sp h6
  subst ez
  subst ey
  subst e5
  subst e4
  subst e3
  subst e2
  subst e1
  subst e0
  exact H x0 x2 x3 x4 x5 τ hy z1
def kp_125_45 (Q : Nat → Int32 → Int32 → Int32 → px_M → Prop) : px_P := fun ls st τ => st = [] ∧ kN ls (fun x0 ls => kI ls (fun x1 ls => kI ls (fun x2 ls => kI ls (fun x3 ls => kZ ls (fun ls => kZ ls (fun ls => kE ls (Q x0 x1 x2 x3 τ)))))))
theorem kq_125_45 {C : px_C} {k : Option px_V → px_M → Prop} {Q : Nat → Int32 → Int32 → Int32 → px_M → Prop} (H : ∀ (x0 : Nat) (x1 : Int32) (x2 : Int32) (x3 : Int32) (τ : px_M), Q x0 x1 x2 x3 τ → ∀ (z4 : Option px_V) (z5 : Option px_V), px_W C k 45 [some (.inr (.inr (some x0))), some (.inl x1), some (.inl x2), some (.inl x3), z4, z5] [] τ) : ∀ ls st τ, kp_125_45 Q ls st τ → px_W C k 45 ls st τ := by
  intro ls st τ hz
  obtain ⟨ez, h0⟩ := hz
  obtain ⟨x0, l0, e0, h1⟩ := kN_sp h0
  obtain ⟨x1, l1, e1, h2⟩ := kI_sp h1
  obtain ⟨x2, l2, e2, h3⟩ := kI_sp h2
  obtain ⟨x3, l3, e3, h4⟩ := kI_sp h3
  obtain ⟨z4, l4, e4, h5⟩ := kZ_sp h4
  obtain ⟨z5, l5, e5, h6⟩ := kZ_sp h5
  obtain ⟨ey, hy⟩ := kE_sp h6
  subst ez
  subst ey
  subst e5
  subst e4
  subst e3
  subst e2
  subst e1
  subst e0
  exact H x0 x1 x2 x3 τ hy z4 z5
set_option maxHeartbeats 4000000 in
set_option maxRecDepth 100000 in
theorem rl_125_88 {C : px_C} (hn : ((px_tb C).map Prod.fst).Nodup) {h : Nat} (hh : 35 ≤ h) (hC : px_ok C pn_i125 h) {k : Option px_V → px_M → Prop} {x0 : Nat} {x2 : Int32} {x3 : Int32} {x4 : Int32} {x5 : Int32} {σ : px_M} (hs : oW (f_125_88 (px_tb C) σ x0 x2 x3 x4 x5) (fun q => k (some (.inl q.1)) q.2)) : ∀ (z1 : Option px_V), px_W C k 88 [some (.inr (.inr (some x0))), z1, some (.inl x2), some (.inl x3), some (.inl x4), some (.inl x5)] [] σ := by
  intro z1
  refine px_runG (h - 1) ck_125 [(53, Sg_53 (f_53 (px_tb C)))] [] 80 hC (px_sp1 (mf_53 hn (by omega)) px_nosp) (by omega) px_nocut (fun G Jf hG hJf => ?_)
  simp only [f_125_88, oW_some, oW_none, oW_bind, oW_map, oW_ite, oW_bn, oW_gd, oW_oA, Sum.elim_inl, Sum.elim_inr, oW_and, true_and, and_true, false_and, and_false, true_or, or_true, false_or, or_false, and_self, or_self, not_false_eq_true, not_true_eq_false, false_implies, forall_const, true_implies, eq_self, ↓reduceIte] at hs
  simp only [↓hG, ↓hJf, ↓px_vc, ↓px_ex, ↓px_jp, ↓px_gi, ↓px_gl, ↓px_gr, ↓px_s1, ↓px_s2, ↓px_nl, ↓px_i1, ↓px_l1, ↓px_r1_o, ↓px_q1, ↓px_i2, ↓px_l2, ↓px_il, ↓px_d0, ↓px_d1, ↓px_d2, ↓px_pop, px_sz, ↓px_sp, ↓px_rd, ↓px_pt, ↓px_rok, ↓px_rv_o, ↓px_fill, ↓px_sl, ↓px_sw, ↓pn_SW, lc_lt, lc_ge, lc_gt, lc_le, lc_eq, ↓reduceIte, Nat.reduceEqDiff, Nat.reduceLeDiff, Nat.reduceAdd, Nat.reduceSub, reduceCtorEq, List.length_cons, List.length_nil, Option.toList_some, Option.toList_none, List.cons_append, List.nil_append, true_and, and_true, false_and, and_false, true_or, or_true, false_or, or_false, and_self, or_self, not_false_eq_true, not_true_eq_false, false_implies, forall_const, true_implies, eq_self, ↓kI_s, ↓kJ_s, ↓kN_s, ↓kO_s, ↓kZ_s, ↓kE_s, oW_and, ↓bk_125, ↓pn_i125, oW_some, oW_none, oW_bind, oW_map, oW_ite, oW_bn, oW_gd, oW_oA, Sum.elim_inl, Sum.elim_inr, ↓Sg_53]
  exact hs
set_option maxHeartbeats 4000000 in
set_option maxRecDepth 100000 in
theorem rl_125_45 {C : px_C} (hn : ((px_tb C).map Prod.fst).Nodup) {h : Nat} (hh : 35 ≤ h) (hC : px_ok C pn_i125 h) {k : Option px_V → px_M → Prop} {x0 : Nat} {x1 : Int32} {x2 : Int32} : ∀ s : Int32 × px_M, oW (f_125_45 (px_tb C) x0 x1 x2 s.1 s.2) (fun q => k (some (.inl q.1)) q.2) → (fun s : Int32 × px_M => ∀ (z4 : Option px_V) (z5 : Option px_V), px_W C k 45 [some (.inr (.inr (some x0))), some (.inl x1), some (.inl x2), some (.inl s.1), z4, z5] [] s.2) s := by
  intro s h0
  refine lpO_sound (P := (fun s : Int32 × px_M => ∀ (z4 : Option px_V) (z5 : Option px_V), px_W C k 45 [some (.inr (.inr (some x0))), some (.inl x1), some (.inl x2), some (.inl s.1), z4, z5] [] s.2)) (fun s hs => ?_) h0
  obtain ⟨x3, σ⟩ := s
  intro z4 z5
  refine px_runG (h - 1) ck_125 [(45, Sg_45 (f_45 (px_tb C))), (123, Sg_123 (f_123 (px_tb C)))] [(45, kp_125_45 (fun y0 y1 y2 y3 τ => y0 = x0 ∧ y1 = x1 ∧ y2 = x2 ∧ (fun s : Int32 × px_M => ∀ (z4 : Option px_V) (z5 : Option px_V), px_W C k 45 [some (.inr (.inr (some x0))), some (.inl x1), some (.inl x2), some (.inl s.1), z4, z5] [] s.2) (y3, τ))), (88, kp_125_88 (fun y0 y2 y3 y4 y5 τ => oW (f_125_88 (px_tb C) τ y0 y2 y3 y4 y5) (fun q => k (some (.inl q.1)) q.2)))] 80 hC (px_sp1 (mf_45 hn (by omega)) (px_sp1 (mf_123 hn (by omega)) px_nosp)) (by omega) (px_cut1 (kq_125_45 (fun y0 y1 y2 y3 τ hq => by obtain ⟨rfl, rfl, rfl, hq⟩ := hq; exact hq)) (px_cut1 (kq_125_88 (fun y0 y2 y3 y4 y5 τ hq => by exact rl_125_88 hn (by omega) hC  hq)) px_nocut)) (fun G Jf hG hJf => ?_)
  simp only [F_125_45, oW_some, oW_none, oW_bind, oW_map, oW_ite, oW_bn, oW_gd, oW_oA, Sum.elim_inl, Sum.elim_inr, oW_and, true_and, and_true, false_and, and_false, true_or, or_true, false_or, or_false, and_self, or_self, not_false_eq_true, not_true_eq_false, false_implies, forall_const, true_implies, eq_self, ↓reduceIte] at hs
  simp only [↓hG, ↓hJf, ↓px_vc, ↓px_ex, ↓px_jp, ↓px_gi, ↓px_gl, ↓px_gr, ↓px_s1, ↓px_s2, ↓px_nl, ↓px_i1, ↓px_l1, ↓px_r1_o, ↓px_q1, ↓px_i2, ↓px_l2, ↓px_il, ↓px_d0, ↓px_d1, ↓px_d2, ↓px_pop, px_sz, ↓px_sp, ↓px_rd, ↓px_pt, ↓px_rok, ↓px_rv_o, ↓px_fill, ↓px_sl, ↓px_sw, ↓pn_SW, lc_lt, lc_ge, lc_gt, lc_le, lc_eq, ↓reduceIte, Nat.reduceEqDiff, Nat.reduceLeDiff, Nat.reduceAdd, Nat.reduceSub, reduceCtorEq, List.length_cons, List.length_nil, Option.toList_some, Option.toList_none, List.cons_append, List.nil_append, true_and, and_true, false_and, and_false, true_or, or_true, false_or, or_false, and_self, or_self, not_false_eq_true, not_true_eq_false, false_implies, forall_const, true_implies, eq_self, ↓kI_s, ↓kJ_s, ↓kN_s, ↓kO_s, ↓kZ_s, ↓kE_s, oW_and, ↓bk_125, ↓pn_i125, oW_some, oW_none, oW_bind, oW_map, oW_ite, oW_bn, oW_gd, oW_oA, Sum.elim_inl, Sum.elim_inr, ↓Sg_45, ↓Sg_123, ↓kp_125_45, ↓kp_125_88]
  exact hs
set_option maxHeartbeats 4000000 in
set_option maxRecDepth 100000 in
theorem mf_125 {tab : px_T} (hn : (tab.map Prod.fst).Nodup) {h : Nat} (hh : 35 ≤ h) : px_Ok tab pn_i125 h (Sg_125 (f_125 tab)) := by
  refine px_mth hn (by decide +kernel) (fun av σ k hS => ?_) (fun C hT hC av σ k hS => ?_)
  · obtain ⟨x0, av0, e0, h0⟩ := px_r1_spec hS
    obtain ⟨x1, av1, e1, h1⟩ := px_i1_spec h0
    obtain ⟨x2, av2, e2, h2⟩ := px_i1_spec h1
    obtain ⟨ez, hz⟩ := h2
    subst ez
    subst e2
    subst e1
    subst e0
    exact Nat.le_of_ble_eq_true rfl
  · obtain ⟨x0, av0, e0, h0⟩ := px_r1_spec hS
    obtain ⟨x1, av1, e1, h1⟩ := px_i1_spec h0
    obtain ⟨x2, av2, e2, h2⟩ := px_i1_spec h1
    obtain ⟨ez, hz⟩ := h2
    subst ez
    subst e2
    subst e1
    subst e0
    subst hT
    refine px_runG (h - 1) ck_125 [(2, Sg_2 (f_2 (px_tb C))), (52, Sg_52 (f_52 (px_tb C)))] [(45, kp_125_45 (fun y0 y1 y2 y3 τ => oW (f_125_45 (px_tb C) y0 y1 y2 y3 τ) (fun q => k (some (.inl q.1)) q.2)))] 80 hC (px_sp1 (mf_2 hn (by omega)) (px_sp1 (mf_52 hn (by omega)) px_nosp)) (by omega) (px_cut1 (kq_125_45 (fun y0 y1 y2 y3 τ hq => by exact rl_125_45 hn (by omega) hC (y3, τ) hq)) px_nocut) (fun G Jf hG hJf => ?_)
    simp only [f_125, oW_some, oW_none, oW_bind, oW_map, oW_ite, oW_bn, oW_gd, oW_oA, Sum.elim_inl, Sum.elim_inr, oW_and, true_and, and_true, false_and, and_false, true_or, or_true, false_or, or_false, and_self, or_self, not_false_eq_true, not_true_eq_false, false_implies, forall_const, true_implies, eq_self, ↓reduceIte] at hz
    simp only [↓hG, ↓hJf, ↓px_vc, ↓px_ex, ↓px_jp, ↓px_gi, ↓px_gl, ↓px_gr, ↓px_s1, ↓px_s2, ↓px_nl, ↓px_i1, ↓px_l1, ↓px_r1_o, ↓px_q1, ↓px_i2, ↓px_l2, ↓px_il, ↓px_d0, ↓px_d1, ↓px_d2, ↓px_pop, px_sz, ↓px_sp, ↓px_rd, ↓px_pt, ↓px_rok, ↓px_rv_o, ↓px_fill, ↓px_sl, ↓px_sw, ↓pn_SW, lc_lt, lc_ge, lc_gt, lc_le, lc_eq, ↓reduceIte, Nat.reduceEqDiff, Nat.reduceLeDiff, Nat.reduceAdd, Nat.reduceSub, reduceCtorEq, List.length_cons, List.length_nil, Option.toList_some, Option.toList_none, List.cons_append, List.nil_append, true_and, and_true, false_and, and_false, true_or, or_true, false_or, or_false, and_self, or_self, not_false_eq_true, not_true_eq_false, false_implies, forall_const, true_implies, eq_self, ↓kI_s, ↓kJ_s, ↓kN_s, ↓kO_s, ↓kZ_s, ↓kE_s, oW_and, ↓bk_125, ↓pn_i125, oW_some, oW_none, oW_bind, oW_map, oW_ite, oW_bn, oW_gd, oW_oA, Sum.elim_inl, Sum.elim_inr, ↓Sg_2, ↓Sg_52, ↓kp_125_45]
    exact hz
/-- NoThreeModel.dearness()I -/
noncomputable def F_126_7 (tab : px_T) (x0 : Nat) (x1 : Int32) (σ : px_M) : Option ((Int32 × px_M) ⊕ (Int32 × px_M)) := if (nI 100) ≤ x1 then (some (.inr (((-1), σ)))) else (gd (px_obj (px_lay tab x0) 0) ((f_123 tab σ x0 x1 ((nI 0))).bind fun q1 => bn (q1.1 = nI 0) (some (.inl (((x1 + (nI 1)), q1.2)))) (some (.inr ((x1, q1.2))))))
noncomputable def f_126_7 (tab : px_T) (x0 : Nat) (x1 : Int32) (σ : px_M) : Option (Int32 × px_M) := lpO (fun s : Int32 × px_M => F_126_7 tab x0 s.1 s.2) (x1, σ)
theorem f_126_7_eq (tab : px_T) (x0 : Nat) (x1 : Int32) (σ : px_M) : f_126_7 tab x0 x1 σ = (F_126_7 tab x0 x1 σ).bind (Sum.elim (fun s => f_126_7 tab x0 s.1 s.2) some) := lpO_eq _ _
noncomputable def f_126 (tab : px_T) (σ : px_M) (x0 : Nat) : Option (Int32 × px_M) := gd (px_obj (px_lay tab x0) 0) (f_126_7 tab x0 ((nI 0)) ((px_wi σ x0 0 (nI 0))))
def Sg_126 (g : px_M → Nat → Option (Int32 × px_M)) : px_S := fun av σ k => px_r1 av (fun x0 av => av = [] ∧ oW (g σ x0) (fun q => k (some (.inl q.1)) q.2))
def kp_126_7 (Q : Nat → Int32 → px_M → Prop) : px_P := fun ls st τ => st = [] ∧ kN ls (fun x0 ls => kI ls (fun x1 ls => kE ls (Q x0 x1 τ)))
theorem kq_126_7 {C : px_C} {k : Option px_V → px_M → Prop} {Q : Nat → Int32 → px_M → Prop} (H : ∀ (x0 : Nat) (x1 : Int32) (τ : px_M), Q x0 x1 τ → px_W C k 7 [some (.inr (.inr (some x0))), some (.inl x1)] [] τ) : ∀ ls st τ, kp_126_7 Q ls st τ → px_W C k 7 ls st τ := by
  intro ls st τ hz
  obtain ⟨ez, h0⟩ := hz
  obtain ⟨x0, l0, e0, h1⟩ := kN_sp h0
  obtain ⟨x1, l1, e1, h2⟩ := kI_sp h1
  obtain ⟨ey, hy⟩ := kE_sp h2
  subst ez
  subst ey
  subst e1
  subst e0
  exact H x0 x1 τ hy
set_option maxHeartbeats 4000000 in
set_option maxRecDepth 100000 in
theorem rl_126_7 {C : px_C} (hn : ((px_tb C).map Prod.fst).Nodup) {h : Nat} (hh : 35 ≤ h) (hC : px_ok C pn_i126 h) {k : Option px_V → px_M → Prop} {x0 : Nat} : ∀ s : Int32 × px_M, oW (f_126_7 (px_tb C) x0 s.1 s.2) (fun q => k (some (.inl q.1)) q.2) → (fun s : Int32 × px_M => px_W C k 7 [some (.inr (.inr (some x0))), some (.inl s.1)] [] s.2) s := by
  intro s h0
  refine lpO_sound (P := (fun s : Int32 × px_M => px_W C k 7 [some (.inr (.inr (some x0))), some (.inl s.1)] [] s.2)) (fun s hs => ?_) h0
  obtain ⟨x1, σ⟩ := s
  refine px_runG (h - 1) ck_126 [(123, Sg_123 (f_123 (px_tb C)))] [(7, kp_126_7 (fun y0 y1 τ => y0 = x0 ∧ (fun s : Int32 × px_M => px_W C k 7 [some (.inr (.inr (some x0))), some (.inl s.1)] [] s.2) (y1, τ)))] 80 hC (px_sp1 (mf_123 hn (by omega)) px_nosp) (by omega) (px_cut1 (kq_126_7 (fun y0 y1 τ hq => by obtain ⟨rfl, hq⟩ := hq; exact hq)) px_nocut) (fun G Jf hG hJf => ?_)
  simp only [F_126_7, oW_some, oW_none, oW_bind, oW_map, oW_ite, oW_bn, oW_gd, oW_oA, Sum.elim_inl, Sum.elim_inr, oW_and, true_and, and_true, false_and, and_false, true_or, or_true, false_or, or_false, and_self, or_self, not_false_eq_true, not_true_eq_false, false_implies, forall_const, true_implies, eq_self, ↓reduceIte] at hs
  simp only [↓hG, ↓hJf, ↓px_vc, ↓px_ex, ↓px_jp, ↓px_gi, ↓px_gl, ↓px_gr, ↓px_s1, ↓px_s2, ↓px_nl, ↓px_i1, ↓px_l1, ↓px_r1_o, ↓px_q1, ↓px_i2, ↓px_l2, ↓px_il, ↓px_d0, ↓px_d1, ↓px_d2, ↓px_pop, px_sz, ↓px_sp, ↓px_rd, ↓px_pt, ↓px_rok, ↓px_rv_o, ↓px_fill, ↓px_sl, ↓px_sw, ↓pn_SW, lc_lt, lc_ge, lc_gt, lc_le, lc_eq, ↓reduceIte, Nat.reduceEqDiff, Nat.reduceLeDiff, Nat.reduceAdd, Nat.reduceSub, reduceCtorEq, List.length_cons, List.length_nil, Option.toList_some, Option.toList_none, List.cons_append, List.nil_append, true_and, and_true, false_and, and_false, true_or, or_true, false_or, or_false, and_self, or_self, not_false_eq_true, not_true_eq_false, false_implies, forall_const, true_implies, eq_self, ↓kI_s, ↓kJ_s, ↓kN_s, ↓kO_s, ↓kZ_s, ↓kE_s, oW_and, ↓bk_126, ↓pn_i126, oW_some, oW_none, oW_bind, oW_map, oW_ite, oW_bn, oW_gd, oW_oA, Sum.elim_inl, Sum.elim_inr, ↓Sg_123, ↓kp_126_7]
  exact hs
set_option maxHeartbeats 4000000 in
set_option maxRecDepth 100000 in
theorem mf_126 {tab : px_T} (hn : (tab.map Prod.fst).Nodup) {h : Nat} (hh : 35 ≤ h) : px_Ok tab pn_i126 h (Sg_126 (f_126 tab)) := by
  refine px_mth hn (by decide +kernel) (fun av σ k hS => ?_) (fun C hT hC av σ k hS => ?_)
  · obtain ⟨x0, av0, e0, h0⟩ := px_r1_spec hS
    obtain ⟨ez, hz⟩ := h0
    subst ez
    subst e0
    exact Nat.le_of_ble_eq_true rfl
  · obtain ⟨x0, av0, e0, h0⟩ := px_r1_spec hS
    obtain ⟨ez, hz⟩ := h0
    subst ez
    subst e0
    subst hT
    refine px_runG (h - 1) ck_126 [] [(7, kp_126_7 (fun y0 y1 τ => oW (f_126_7 (px_tb C) y0 y1 τ) (fun q => k (some (.inl q.1)) q.2)))] 80 hC px_nosp (by omega) (px_cut1 (kq_126_7 (fun y0 y1 τ hq => by exact rl_126_7 hn (by omega) hC (y1, τ) hq)) px_nocut) (fun G Jf hG hJf => ?_)
    simp only [f_126, oW_some, oW_none, oW_bind, oW_map, oW_ite, oW_bn, oW_gd, oW_oA, Sum.elim_inl, Sum.elim_inr, oW_and, true_and, and_true, false_and, and_false, true_or, or_true, false_or, or_false, and_self, or_self, not_false_eq_true, not_true_eq_false, false_implies, forall_const, true_implies, eq_self, ↓reduceIte] at hz
    simp only [↓hG, ↓hJf, ↓px_vc, ↓px_ex, ↓px_jp, ↓px_gi, ↓px_gl, ↓px_gr, ↓px_s1, ↓px_s2, ↓px_nl, ↓px_i1, ↓px_l1, ↓px_r1_o, ↓px_q1, ↓px_i2, ↓px_l2, ↓px_il, ↓px_d0, ↓px_d1, ↓px_d2, ↓px_pop, px_sz, ↓px_sp, ↓px_rd, ↓px_pt, ↓px_rok, ↓px_rv_o, ↓px_fill, ↓px_sl, ↓px_sw, ↓pn_SW, lc_lt, lc_ge, lc_gt, lc_le, lc_eq, ↓reduceIte, Nat.reduceEqDiff, Nat.reduceLeDiff, Nat.reduceAdd, Nat.reduceSub, reduceCtorEq, List.length_cons, List.length_nil, Option.toList_some, Option.toList_none, List.cons_append, List.nil_append, true_and, and_true, false_and, and_false, true_or, or_true, false_or, or_false, and_self, or_self, not_false_eq_true, not_true_eq_false, false_implies, forall_const, true_implies, eq_self, ↓kI_s, ↓kJ_s, ↓kN_s, ↓kO_s, ↓kZ_s, ↓kE_s, oW_and, ↓bk_126, ↓pn_i126, oW_some, oW_none, oW_bind, oW_map, oW_ite, oW_bn, oW_gd, oW_oA, Sum.elim_inl, Sum.elim_inr, ↓kp_126_7]
    exact hz
/-- NoThreeModel.cut(JI)J -/
noncomputable def f_127 (tab : px_T) (σ : px_M) (x0 : Int64) (x2 : Int32) : Option (Int64) := bn (x2 = nI 0) (bn (x2 = (nI 1)) (bn (x2 = (nI 2)) (some (x0)) (some (((x0).toInt32).toInt64))) (some ((((x0).toInt32).toInt16.toInt32).toInt64))) (some ((((x0).toInt32).toInt8.toInt32).toInt64))
def Sg_127 (g : px_M → Int64 → Int32 → Option (Int64)) : px_S := fun av σ k => px_l1 av (fun x0 av => px_i1 av (fun x2 av => av = [] ∧ oW (g σ x0 x2) (fun r => k (some (.inr (.inl r))) σ)))
set_option maxHeartbeats 4000000 in
set_option maxRecDepth 100000 in
theorem mf_127 {tab : px_T} (hn : (tab.map Prod.fst).Nodup) {h : Nat} (hh : 1 ≤ h) : px_Ok tab pn_i127 h (Sg_127 (f_127 tab)) := by
  refine px_mth hn (by decide +kernel) (fun av σ k hS => ?_) (fun C hT hC av σ k hS => ?_)
  · obtain ⟨x0, av0, e0, h0⟩ := px_l1_spec hS
    obtain ⟨x2, av1, e1, h1⟩ := px_i1_spec h0
    obtain ⟨ez, hz⟩ := h1
    subst ez
    subst e1
    subst e0
    exact Nat.le_of_ble_eq_true rfl
  · obtain ⟨x0, av0, e0, h0⟩ := px_l1_spec hS
    obtain ⟨x2, av1, e1, h1⟩ := px_i1_spec h0
    obtain ⟨ez, hz⟩ := h1
    subst ez
    subst e1
    subst e0
    subst hT
    refine px_runG (h - 1) ck_127 [] [] 80 hC px_nosp (by omega) px_nocut (fun G Jf hG hJf => ?_)
    simp only [f_127, oW_some, oW_none, oW_bind, oW_map, oW_ite, oW_bn, oW_gd, oW_oA, Sum.elim_inl, Sum.elim_inr, oW_and, true_and, and_true, false_and, and_false, true_or, or_true, false_or, or_false, and_self, or_self, not_false_eq_true, not_true_eq_false, false_implies, forall_const, true_implies, eq_self, ↓reduceIte] at hz
    simp only [↓hG, ↓hJf, ↓px_vc, ↓px_ex, ↓px_jp, ↓px_gi, ↓px_gl, ↓px_gr, ↓px_s1, ↓px_s2, ↓px_nl, ↓px_i1, ↓px_l1, ↓px_r1_o, ↓px_q1, ↓px_i2, ↓px_l2, ↓px_il, ↓px_d0, ↓px_d1, ↓px_d2, ↓px_pop, px_sz, ↓px_sp, ↓px_rd, ↓px_pt, ↓px_rok, ↓px_rv_o, ↓px_fill, ↓px_sl, ↓px_sw, ↓pn_SW, lc_lt, lc_ge, lc_gt, lc_le, lc_eq, ↓reduceIte, Nat.reduceEqDiff, Nat.reduceLeDiff, Nat.reduceAdd, Nat.reduceSub, reduceCtorEq, List.length_cons, List.length_nil, Option.toList_some, Option.toList_none, List.cons_append, List.nil_append, true_and, and_true, false_and, and_false, true_or, or_true, false_or, or_false, and_self, or_self, not_false_eq_true, not_true_eq_false, false_implies, forall_const, true_implies, eq_self, ↓kI_s, ↓kJ_s, ↓kN_s, ↓kO_s, ↓kZ_s, ↓kE_s, oW_and, ↓bk_127, ↓pn_i127, oW_some, oW_none, oW_bind, oW_map, oW_ite, oW_bn, oW_gd, oW_oA, Sum.elim_inl, Sum.elim_inr]
    exact hz
/-- NoThreeModel.numbers(III)I -/
noncomputable def F_128_64 (tab : px_T) (x0 : Nat) (x1 : Int32) (x3 : Int32) (x4 : Int32) (σ : px_M) : Option ((Int32 × px_M) ⊕ (Int32 × px_M)) := if x3 ≤ x4 then (some (.inr (((nI 0), σ)))) else (gd (px_obj (px_lay tab x0) 0) ((((σ).2.2 x0 37)).bind fun n1 => oA (px_lay tab n1) fun t2 l3 => gd (t2 = 3) (gd (vp_in (((nI 40) * x1) + x4) l3) (some (.inl (((x4 + (nI 1)), (px_wl σ n1 ((((nI 40) * x1) + x4)).toNatClampNeg (lN 0)))))))))
noncomputable def f_128_64 (tab : px_T) (x0 : Nat) (x1 : Int32) (x3 : Int32) (x4 : Int32) (σ : px_M) : Option (Int32 × px_M) := lpO (fun s : Int32 × px_M => F_128_64 tab x0 x1 x3 s.1 s.2) (x4, σ)
theorem f_128_64_eq (tab : px_T) (x0 : Nat) (x1 : Int32) (x3 : Int32) (x4 : Int32) (σ : px_M) : f_128_64 tab x0 x1 x3 x4 σ = (F_128_64 tab x0 x1 x3 x4 σ).bind (Sum.elim (fun s => f_128_64 tab x0 x1 x3 s.1 s.2) some) := lpO_eq _ _
noncomputable def f_128 (tab : px_T) (σ : px_M) (x0 : Nat) (x1 : Int32) (x2 : Int32) (x3 : Int32) : Option (Int32 × px_M) := gd (px_obj (px_lay tab x0) 0) ((f_2 tab (px_wi σ x0 0 (nI 0)) ((x1).toInt64) ((lN 0)) ((lN 3))).bind fun r1 => if r1 = nI 0 then (some (((-2), (px_wi σ x0 0 (nI 0))))) else ((f_2 tab (px_wi σ x0 0 (nI 0)) ((x2).toInt64) ((lN 0)) ((lN 3))).bind fun r2 => bn (r2 = nI 0) ((f_2 tab (px_wi σ x0 0 (nI 0)) ((x3).toInt64) ((lN 0)) ((lN 40))).bind fun r3 => bn (r3 = nI 0) (gd (px_obj (px_lay tab x0) 0) (((((px_wi σ x0 0 (nI 0))).2.2 x0 35)).bind fun n4 => oA (px_lay tab n4) fun t5 l6 => gd (t5 = 0) (gd (vp_in x1 l6) (gd (px_obj (px_lay tab x0) 0) (((((px_wi (px_wi σ x0 0 (nI 0)) n4 (x1).toNatClampNeg x2)).2.2 x0 36)).bind fun n7 => oA (px_lay tab n7) fun t8 l9 => gd (t8 = 0) (gd (vp_in x1 l9) (f_128_64 tab x0 x1 x3 ((nI 0)) ((px_wi (px_wi (px_wi σ x0 0 (nI 0)) n4 (x1).toNatClampNeg x2) n7 (x1).toNatClampNeg x3))))))))) (some (((-3), (px_wi σ x0 0 (nI 0)))))) (some (((-2), (px_wi σ x0 0 (nI 0)))))))
def Sg_128 (g : px_M → Nat → Int32 → Int32 → Int32 → Option (Int32 × px_M)) : px_S := fun av σ k => px_r1 av (fun x0 av => px_i1 av (fun x1 av => px_i1 av (fun x2 av => px_i1 av (fun x3 av => av = [] ∧ oW (g σ x0 x1 x2 x3) (fun q => k (some (.inl q.1)) q.2)))))
def kp_128_64 (Q : Nat → Int32 → Int32 → Int32 → px_M → Prop) : px_P := fun ls st τ => st = [] ∧ kN ls (fun x0 ls => kI ls (fun x1 ls => kZ ls (fun ls => kI ls (fun x3 ls => kI ls (fun x4 ls => kE ls (Q x0 x1 x3 x4 τ))))))
theorem kq_128_64 {C : px_C} {k : Option px_V → px_M → Prop} {Q : Nat → Int32 → Int32 → Int32 → px_M → Prop} (H : ∀ (x0 : Nat) (x1 : Int32) (x3 : Int32) (x4 : Int32) (τ : px_M), Q x0 x1 x3 x4 τ → ∀ (z2 : Option px_V), px_W C k 64 [some (.inr (.inr (some x0))), some (.inl x1), z2, some (.inl x3), some (.inl x4)] [] τ) : ∀ ls st τ, kp_128_64 Q ls st τ → px_W C k 64 ls st τ := by
  intro ls st τ hz
  obtain ⟨ez, h0⟩ := hz
  obtain ⟨x0, l0, e0, h1⟩ := kN_sp h0
  obtain ⟨x1, l1, e1, h2⟩ := kI_sp h1
  obtain ⟨z2, l2, e2, h3⟩ := kZ_sp h2
  obtain ⟨x3, l3, e3, h4⟩ := kI_sp h3
  obtain ⟨x4, l4, e4, h5⟩ := kI_sp h4
  obtain ⟨ey, hy⟩ := kE_sp h5
  subst ez
  subst ey
  subst e4
  subst e3
  subst e2
  subst e1
  subst e0
  exact H x0 x1 x3 x4 τ hy z2
set_option maxHeartbeats 4000000 in
set_option maxRecDepth 100000 in
theorem rl_128_64 {C : px_C} (hn : ((px_tb C).map Prod.fst).Nodup) {h : Nat} (hh : 2 ≤ h) (hC : px_ok C pn_i128 h) {k : Option px_V → px_M → Prop} {x0 : Nat} {x1 : Int32} {x3 : Int32} : ∀ s : Int32 × px_M, oW (f_128_64 (px_tb C) x0 x1 x3 s.1 s.2) (fun q => k (some (.inl q.1)) q.2) → (fun s : Int32 × px_M => ∀ (z2 : Option px_V), px_W C k 64 [some (.inr (.inr (some x0))), some (.inl x1), z2, some (.inl x3), some (.inl s.1)] [] s.2) s := by
  intro s h0
  refine lpO_sound (P := (fun s : Int32 × px_M => ∀ (z2 : Option px_V), px_W C k 64 [some (.inr (.inr (some x0))), some (.inl x1), z2, some (.inl x3), some (.inl s.1)] [] s.2)) (fun s hs => ?_) h0
  obtain ⟨x4, σ⟩ := s
  intro z2
  refine px_runG (h - 1) ck_128 [] [(64, kp_128_64 (fun y0 y1 y3 y4 τ => y0 = x0 ∧ y1 = x1 ∧ y3 = x3 ∧ (fun s : Int32 × px_M => ∀ (z2 : Option px_V), px_W C k 64 [some (.inr (.inr (some x0))), some (.inl x1), z2, some (.inl x3), some (.inl s.1)] [] s.2) (y4, τ)))] 80 hC px_nosp (by omega) (px_cut1 (kq_128_64 (fun y0 y1 y3 y4 τ hq => by obtain ⟨rfl, rfl, rfl, hq⟩ := hq; exact hq)) px_nocut) (fun G Jf hG hJf => ?_)
  simp only [F_128_64, oW_some, oW_none, oW_bind, oW_map, oW_ite, oW_bn, oW_gd, oW_oA, Sum.elim_inl, Sum.elim_inr, oW_and, true_and, and_true, false_and, and_false, true_or, or_true, false_or, or_false, and_self, or_self, not_false_eq_true, not_true_eq_false, false_implies, forall_const, true_implies, eq_self, ↓reduceIte] at hs
  simp only [↓hG, ↓hJf, ↓px_vc, ↓px_ex, ↓px_jp, ↓px_gi, ↓px_gl, ↓px_gr, ↓px_s1, ↓px_s2, ↓px_nl, ↓px_i1, ↓px_l1, ↓px_r1_o, ↓px_q1, ↓px_i2, ↓px_l2, ↓px_il, ↓px_d0, ↓px_d1, ↓px_d2, ↓px_pop, px_sz, ↓px_sp, ↓px_rd, ↓px_pt, ↓px_rok, ↓px_rv_o, ↓px_fill, ↓px_sl, ↓px_sw, ↓pn_SW, lc_lt, lc_ge, lc_gt, lc_le, lc_eq, ↓reduceIte, Nat.reduceEqDiff, Nat.reduceLeDiff, Nat.reduceAdd, Nat.reduceSub, reduceCtorEq, List.length_cons, List.length_nil, Option.toList_some, Option.toList_none, List.cons_append, List.nil_append, true_and, and_true, false_and, and_false, true_or, or_true, false_or, or_false, and_self, or_self, not_false_eq_true, not_true_eq_false, false_implies, forall_const, true_implies, eq_self, ↓kI_s, ↓kJ_s, ↓kN_s, ↓kO_s, ↓kZ_s, ↓kE_s, oW_and, ↓bk_128, ↓pn_i128, oW_some, oW_none, oW_bind, oW_map, oW_ite, oW_bn, oW_gd, oW_oA, Sum.elim_inl, Sum.elim_inr, ↓kp_128_64]
  exact hs
set_option maxHeartbeats 4000000 in
set_option maxRecDepth 100000 in
theorem mf_128 {tab : px_T} (hn : (tab.map Prod.fst).Nodup) {h : Nat} (hh : 2 ≤ h) : px_Ok tab pn_i128 h (Sg_128 (f_128 tab)) := by
  refine px_mth hn (by decide +kernel) (fun av σ k hS => ?_) (fun C hT hC av σ k hS => ?_)
  · obtain ⟨x0, av0, e0, h0⟩ := px_r1_spec hS
    obtain ⟨x1, av1, e1, h1⟩ := px_i1_spec h0
    obtain ⟨x2, av2, e2, h2⟩ := px_i1_spec h1
    obtain ⟨x3, av3, e3, h3⟩ := px_i1_spec h2
    obtain ⟨ez, hz⟩ := h3
    subst ez
    subst e3
    subst e2
    subst e1
    subst e0
    exact Nat.le_of_ble_eq_true rfl
  · obtain ⟨x0, av0, e0, h0⟩ := px_r1_spec hS
    obtain ⟨x1, av1, e1, h1⟩ := px_i1_spec h0
    obtain ⟨x2, av2, e2, h2⟩ := px_i1_spec h1
    obtain ⟨x3, av3, e3, h3⟩ := px_i1_spec h2
    obtain ⟨ez, hz⟩ := h3
    subst ez
    subst e3
    subst e2
    subst e1
    subst e0
    subst hT
    refine px_runG (h - 1) ck_128 [(2, Sg_2 (f_2 (px_tb C)))] [(64, kp_128_64 (fun y0 y1 y3 y4 τ => oW (f_128_64 (px_tb C) y0 y1 y3 y4 τ) (fun q => k (some (.inl q.1)) q.2)))] 80 hC (px_sp1 (mf_2 hn (by omega)) px_nosp) (by omega) (px_cut1 (kq_128_64 (fun y0 y1 y3 y4 τ hq => by exact rl_128_64 hn (by omega) hC (y4, τ) hq)) px_nocut) (fun G Jf hG hJf => ?_)
    simp only [f_128, oW_some, oW_none, oW_bind, oW_map, oW_ite, oW_bn, oW_gd, oW_oA, Sum.elim_inl, Sum.elim_inr, oW_and, true_and, and_true, false_and, and_false, true_or, or_true, false_or, or_false, and_self, or_self, not_false_eq_true, not_true_eq_false, false_implies, forall_const, true_implies, eq_self, ↓reduceIte] at hz
    simp only [↓hG, ↓hJf, ↓px_vc, ↓px_ex, ↓px_jp, ↓px_gi, ↓px_gl, ↓px_gr, ↓px_s1, ↓px_s2, ↓px_nl, ↓px_i1, ↓px_l1, ↓px_r1_o, ↓px_q1, ↓px_i2, ↓px_l2, ↓px_il, ↓px_d0, ↓px_d1, ↓px_d2, ↓px_pop, px_sz, ↓px_sp, ↓px_rd, ↓px_pt, ↓px_rok, ↓px_rv_o, ↓px_fill, ↓px_sl, ↓px_sw, ↓pn_SW, lc_lt, lc_ge, lc_gt, lc_le, lc_eq, ↓reduceIte, Nat.reduceEqDiff, Nat.reduceLeDiff, Nat.reduceAdd, Nat.reduceSub, reduceCtorEq, List.length_cons, List.length_nil, Option.toList_some, Option.toList_none, List.cons_append, List.nil_append, true_and, and_true, false_and, and_false, true_or, or_true, false_or, or_false, and_self, or_self, not_false_eq_true, not_true_eq_false, false_implies, forall_const, true_implies, eq_self, ↓kI_s, ↓kJ_s, ↓kN_s, ↓kO_s, ↓kZ_s, ↓kE_s, oW_and, ↓bk_128, ↓pn_i128, oW_some, oW_none, oW_bind, oW_map, oW_ite, oW_bn, oW_gd, oW_oA, Sum.elim_inl, Sum.elim_inr, ↓Sg_2, ↓kp_128_64]
    exact hz
/-- NoThreeModel.write(IIJ)J -/
noncomputable def f_129 (tab : px_T) (σ : px_M) (x0 : Nat) (x1 : Int32) (x2 : Int32) (x3 : Int64) : Option (Int64 × px_M) := gd (px_obj (px_lay tab x0) 0) ((f_2 tab (px_wi σ x0 0 (nI 0)) ((x1).toInt64) ((lN 0)) ((lN 3))).bind fun r1 => bn (r1 = nI 0) (gd (px_obj (px_lay tab x0) 0) (((((px_wi σ x0 0 (nI 0))).2.2 x0 35)).bind fun n2 => oA (px_lay tab n2) fun t3 l4 => gd (t3 = 0) (gd (vp_in x1 l4) (bn ((((px_wi σ x0 0 (nI 0))).1 n2 (x1).toNatClampNeg) = (-1)) (gd (px_obj (px_lay tab x0) 0) (((((px_wi σ x0 0 (nI 0))).2.2 x0 36)).bind fun n5 => oA (px_lay tab n5) fun t6 l7 => gd (t6 = 0) (gd (vp_in x1 l7) ((f_2 tab (px_wi σ x0 0 (nI 0)) ((x2).toInt64) ((lN 0)) ((((((px_wi σ x0 0 (nI 0))).1 n5 (x1).toNatClampNeg) - (nI 1))).toInt64)).bind fun r8 => bn (r8 = nI 0) (gd (px_obj (px_lay tab x0) 0) (gd (px_obj (px_lay tab x0) 0) (((((px_wi σ x0 0 (nI 0))).2.2 x0 35)).bind fun n9 => oA (px_lay tab n9) fun t10 l11 => gd (t10 = 0) (gd (vp_in x1 l11) ((f_127 tab (px_wi σ x0 0 (nI 0)) x3 ((((px_wi σ x0 0 (nI 0))).1 n9 (x1).toNatClampNeg))).bind fun r12 => ((((px_wi σ x0 0 (nI 0))).2.2 x0 37)).bind fun n13 => oA (px_lay tab n13) fun t14 l15 => gd (t14 = 3) (gd (vp_in (((nI 40) * x1) + x2) l15) (gd (px_obj (px_lay tab x0) 0) (((((px_wl (px_wi σ x0 0 (nI 0)) n13 ((((nI 40) * x1) + x2)).toNatClampNeg r12)).2.2 x0 37)).bind fun n16 => oA (px_lay tab n16) fun t17 l18 => gd (t17 = 3) (gd (vp_in (((nI 40) * x1) + x2) l18) (some (((((px_wl (px_wi σ x0 0 (nI 0)) n13 ((((nI 40) * x1) + x2)).toNatClampNeg r12)).2.1 n16 ((((nI 40) * x1) + x2)).toNatClampNeg), (px_wl (px_wi σ x0 0 (nI 0)) n13 ((((nI 40) * x1) + x2)).toNatClampNeg r12))))))))))))) (some (((-7), (px_wi σ x0 0 (nI 0))))))))) (some (((-6), (px_wi σ x0 0 (nI 0))))))))) (some (((-2), (px_wi σ x0 0 (nI 0))))))
def Sg_129 (g : px_M → Nat → Int32 → Int32 → Int64 → Option (Int64 × px_M)) : px_S := fun av σ k => px_r1 av (fun x0 av => px_i1 av (fun x1 av => px_i1 av (fun x2 av => px_l1 av (fun x3 av => av = [] ∧ oW (g σ x0 x1 x2 x3) (fun q => k (some (.inr (.inl q.1))) q.2)))))
set_option maxHeartbeats 4000000 in
set_option maxRecDepth 100000 in
theorem mf_129 {tab : px_T} (hn : (tab.map Prod.fst).Nodup) {h : Nat} (hh : 2 ≤ h) : px_Ok tab pn_i129 h (Sg_129 (f_129 tab)) := by
  refine px_mth hn (by decide +kernel) (fun av σ k hS => ?_) (fun C hT hC av σ k hS => ?_)
  · obtain ⟨x0, av0, e0, h0⟩ := px_r1_spec hS
    obtain ⟨x1, av1, e1, h1⟩ := px_i1_spec h0
    obtain ⟨x2, av2, e2, h2⟩ := px_i1_spec h1
    obtain ⟨x3, av3, e3, h3⟩ := px_l1_spec h2
    obtain ⟨ez, hz⟩ := h3
    subst ez
    subst e3
    subst e2
    subst e1
    subst e0
    exact Nat.le_of_ble_eq_true rfl
  · obtain ⟨x0, av0, e0, h0⟩ := px_r1_spec hS
    obtain ⟨x1, av1, e1, h1⟩ := px_i1_spec h0
    obtain ⟨x2, av2, e2, h2⟩ := px_i1_spec h1
    obtain ⟨x3, av3, e3, h3⟩ := px_l1_spec h2
    obtain ⟨ez, hz⟩ := h3
    subst ez
    subst e3
    subst e2
    subst e1
    subst e0
    subst hT
    refine px_runG (h - 1) ck_129 [(2, Sg_2 (f_2 (px_tb C))), (127, Sg_127 (f_127 (px_tb C)))] [] 80 hC (px_sp1 (mf_2 hn (by omega)) (px_sp1 (mf_127 hn (by omega)) px_nosp)) (by omega) px_nocut (fun G Jf hG hJf => ?_)
    simp only [f_129, oW_some, oW_none, oW_bind, oW_map, oW_ite, oW_bn, oW_gd, oW_oA, Sum.elim_inl, Sum.elim_inr, oW_and, true_and, and_true, false_and, and_false, true_or, or_true, false_or, or_false, and_self, or_self, not_false_eq_true, not_true_eq_false, false_implies, forall_const, true_implies, eq_self, ↓reduceIte] at hz
    simp only [↓hG, ↓hJf, ↓px_vc, ↓px_ex, ↓px_jp, ↓px_gi, ↓px_gl, ↓px_gr, ↓px_s1, ↓px_s2, ↓px_nl, ↓px_i1, ↓px_l1, ↓px_r1_o, ↓px_q1, ↓px_i2, ↓px_l2, ↓px_il, ↓px_d0, ↓px_d1, ↓px_d2, ↓px_pop, px_sz, ↓px_sp, ↓px_rd, ↓px_pt, ↓px_rok, ↓px_rv_o, ↓px_fill, ↓px_sl, ↓px_sw, ↓pn_SW, lc_lt, lc_ge, lc_gt, lc_le, lc_eq, ↓reduceIte, Nat.reduceEqDiff, Nat.reduceLeDiff, Nat.reduceAdd, Nat.reduceSub, reduceCtorEq, List.length_cons, List.length_nil, Option.toList_some, Option.toList_none, List.cons_append, List.nil_append, true_and, and_true, false_and, and_false, true_or, or_true, false_or, or_false, and_self, or_self, not_false_eq_true, not_true_eq_false, false_implies, forall_const, true_implies, eq_self, ↓kI_s, ↓kJ_s, ↓kN_s, ↓kO_s, ↓kZ_s, ↓kE_s, oW_and, ↓bk_129, ↓pn_i129, oW_some, oW_none, oW_bind, oW_map, oW_ite, oW_bn, oW_gd, oW_oA, Sum.elim_inl, Sum.elim_inr, ↓Sg_2, ↓Sg_127]
    exact hz
/-- NoThreeModel.copy(I)I -/
noncomputable def F_130_52 (tab : px_T) (x0 : Nat) (x1 : Int32) (x3 : Int32) (x2 : Int32) (x4 : Int32) (σ : px_M) : Option ((Int32 × Int32 × px_M) ⊕ ((Int32 × Int32 × px_M) ⊕ (Int32 × px_M))) := gd (px_obj (px_lay tab x0) 0) ((((σ).2.2 x0 1)).bind fun n1 => oA (px_lay tab n1) fun t2 l3 => gd (t2 = 0) (gd (vp_in (nI 1) l3) (if ((σ).1 n1 ((nI 1)).toNatClampNeg) ≤ x4 then (some (.inr (.inl ((x2, (x3 + (nI 1)), σ))))) else (gd (px_obj (px_lay tab x0) 0) ((((σ).2.2 x0 36)).bind fun n4 => oA (px_lay tab n4) fun t5 l6 => gd (t5 = 0) (gd (vp_in x1 l6) (if ((σ).1 n4 (x1).toNatClampNeg) ≤ x2 then (some (.inr (.inl ((x2, (x3 + (nI 1)), σ))))) else (gd (px_obj (px_lay tab x0) 0) ((f_31 tab σ x0 x3).bind fun r7 => (f_14 tab σ ((r7).toInt64) x4).bind fun r8 => bn (r8 = nI 0) (gd (px_obj (px_lay tab x0) 0) (gd (px_obj (px_lay tab x0) 0) ((((σ).2.2 x0 35)).bind fun n9 => oA (px_lay tab n9) fun t10 l11 => gd (t10 = 0) (gd (vp_in x1 l11) ((f_127 tab σ (((((nI 100) * x3) + x4)).toInt64) (((σ).1 n9 (x1).toNatClampNeg))).bind fun r12 => (((σ).2.2 x0 37)).bind fun n13 => oA (px_lay tab n13) fun t14 l15 => gd (t14 = 3) (gd (vp_in (((nI 40) * x1) + x2) l15) (some (.inl (((x2 + (nI 1)), (x4 + (nI 1)), (px_wl σ n13 ((((nI 40) * x1) + x2)).toNatClampNeg r12))))))))))) (some (.inl ((x2, (x4 + (nI 1)), σ)))))))))))))
noncomputable def f_130_52 (tab : px_T) (x0 : Nat) (x1 : Int32) (x3 : Int32) (x2 : Int32) (x4 : Int32) (σ : px_M) : Option ((Int32 × Int32 × px_M) ⊕ (Int32 × px_M)) := lpO (fun s : Int32 × Int32 × px_M => F_130_52 tab x0 x1 x3 s.1 s.2.1 s.2.2) (x2, x4, σ)
theorem f_130_52_eq (tab : px_T) (x0 : Nat) (x1 : Int32) (x3 : Int32) (x2 : Int32) (x4 : Int32) (σ : px_M) : f_130_52 tab x0 x1 x3 x2 x4 σ = (F_130_52 tab x0 x1 x3 x2 x4 σ).bind (Sum.elim (fun s => f_130_52 tab x0 x1 x3 s.1 s.2.1 s.2.2) some) := lpO_eq _ _
noncomputable def F_130_37 (tab : px_T) (x0 : Nat) (x1 : Int32) (x2 : Int32) (x3 : Int32) (σ : px_M) : Option ((Int32 × Int32 × px_M) ⊕ (Int32 × px_M)) := gd (px_obj (px_lay tab x0) 0) ((((σ).2.2 x0 1)).bind fun n1 => oA (px_lay tab n1) fun t2 l3 => gd (t2 = 0) (gd (vp_in (nI 1) l3) (if ((σ).1 n1 ((nI 1)).toNatClampNeg) ≤ x3 then (some (.inr ((x2, σ)))) else (f_130_52 tab x0 x1 x3 x2 ((x3 + (nI 1))) σ))))
noncomputable def f_130_37 (tab : px_T) (x0 : Nat) (x1 : Int32) (x2 : Int32) (x3 : Int32) (σ : px_M) : Option (Int32 × px_M) := lpO (fun s : Int32 × Int32 × px_M => F_130_37 tab x0 x1 s.1 s.2.1 s.2.2) (x2, x3, σ)
theorem f_130_37_eq (tab : px_T) (x0 : Nat) (x1 : Int32) (x2 : Int32) (x3 : Int32) (σ : px_M) : f_130_37 tab x0 x1 x2 x3 σ = (F_130_37 tab x0 x1 x2 x3 σ).bind (Sum.elim (fun s => f_130_37 tab x0 x1 s.1 s.2.1 s.2.2) some) := lpO_eq _ _
noncomputable def f_130 (tab : px_T) (σ : px_M) (x0 : Nat) (x1 : Int32) : Option (Int32 × px_M) := gd (px_obj (px_lay tab x0) 0) ((f_2 tab (px_wi σ x0 0 (nI 0)) ((x1).toInt64) ((lN 0)) ((lN 3))).bind fun r1 => bn (r1 = nI 0) (gd (px_obj (px_lay tab x0) 0) (((((px_wi σ x0 0 (nI 0))).2.2 x0 35)).bind fun n2 => oA (px_lay tab n2) fun t3 l4 => gd (t3 = 0) (gd (vp_in x1 l4) (bn ((((px_wi σ x0 0 (nI 0))).1 n2 (x1).toNatClampNeg) = (-1)) (f_130_37 tab x0 x1 ((nI 0)) ((nI 0)) ((px_wi σ x0 0 (nI 0)))) (some (((-6), (px_wi σ x0 0 (nI 0))))))))) (some (((-2), (px_wi σ x0 0 (nI 0))))))
def Sg_130 (g : px_M → Nat → Int32 → Option (Int32 × px_M)) : px_S := fun av σ k => px_r1 av (fun x0 av => px_i1 av (fun x1 av => av = [] ∧ oW (g σ x0 x1) (fun q => k (some (.inl q.1)) q.2)))
def kp_130_52 (Q : Nat → Int32 → Int32 → Int32 → Int32 → px_M → Prop) : px_P := fun ls st τ => st = [] ∧ kN ls (fun x0 ls => kI ls (fun x1 ls => kI ls (fun x2 ls => kI ls (fun x3 ls => kI ls (fun x4 ls => kE ls (Q x0 x1 x2 x3 x4 τ))))))
theorem kq_130_52 {C : px_C} {k : Option px_V → px_M → Prop} {Q : Nat → Int32 → Int32 → Int32 → Int32 → px_M → Prop} (H : ∀ (x0 : Nat) (x1 : Int32) (x2 : Int32) (x3 : Int32) (x4 : Int32) (τ : px_M), Q x0 x1 x2 x3 x4 τ → px_W C k 52 [some (.inr (.inr (some x0))), some (.inl x1), some (.inl x2), some (.inl x3), some (.inl x4)] [] τ) : ∀ ls st τ, kp_130_52 Q ls st τ → px_W C k 52 ls st τ := by
  intro ls st τ hz
  obtain ⟨ez, h0⟩ := hz
  obtain ⟨x0, l0, e0, h1⟩ := kN_sp h0
  obtain ⟨x1, l1, e1, h2⟩ := kI_sp h1
  obtain ⟨x2, l2, e2, h3⟩ := kI_sp h2
  obtain ⟨x3, l3, e3, h4⟩ := kI_sp h3
  obtain ⟨x4, l4, e4, h5⟩ := kI_sp h4
  obtain ⟨ey, hy⟩ := kE_sp h5
  subst ez
  subst ey
  subst e4
  subst e3
  subst e2
  subst e1
  subst e0
  exact H x0 x1 x2 x3 x4 τ hy
def kp_130_37 (Q : Nat → Int32 → Int32 → Int32 → px_M → Prop) : px_P := fun ls st τ => st = [] ∧ kN ls (fun x0 ls => kI ls (fun x1 ls => kI ls (fun x2 ls => kI ls (fun x3 ls => kZ ls (fun ls => kE ls (Q x0 x1 x2 x3 τ))))))
theorem kq_130_37 {C : px_C} {k : Option px_V → px_M → Prop} {Q : Nat → Int32 → Int32 → Int32 → px_M → Prop} (H : ∀ (x0 : Nat) (x1 : Int32) (x2 : Int32) (x3 : Int32) (τ : px_M), Q x0 x1 x2 x3 τ → ∀ (z4 : Option px_V), px_W C k 37 [some (.inr (.inr (some x0))), some (.inl x1), some (.inl x2), some (.inl x3), z4] [] τ) : ∀ ls st τ, kp_130_37 Q ls st τ → px_W C k 37 ls st τ := by
  intro ls st τ hz
  obtain ⟨ez, h0⟩ := hz
  obtain ⟨x0, l0, e0, h1⟩ := kN_sp h0
  obtain ⟨x1, l1, e1, h2⟩ := kI_sp h1
  obtain ⟨x2, l2, e2, h3⟩ := kI_sp h2
  obtain ⟨x3, l3, e3, h4⟩ := kI_sp h3
  obtain ⟨z4, l4, e4, h5⟩ := kZ_sp h4
  obtain ⟨ey, hy⟩ := kE_sp h5
  subst ez
  subst ey
  subst e4
  subst e3
  subst e2
  subst e1
  subst e0
  exact H x0 x1 x2 x3 τ hy z4
set_option maxHeartbeats 4000000 in
set_option maxRecDepth 100000 in
theorem rl_130_52 {C : px_C} (hn : ((px_tb C).map Prod.fst).Nodup) {h : Nat} (hh : 2 ≤ h) (hC : px_ok C pn_i130 h) {k : Option px_V → px_M → Prop} {x0 : Nat} {x1 : Int32} {x3 : Int32} : ∀ s : Int32 × Int32 × px_M, oW (f_130_52 (px_tb C) x0 x1 x3 s.1 s.2.1 s.2.2) (Sum.elim (fun s : Int32 × Int32 × px_M => ∀ (z4 : Option px_V), px_W C k 37 [some (.inr (.inr (some x0))), some (.inl x1), some (.inl s.1), some (.inl s.2.1), z4] [] s.2.2) (fun q => k (some (.inl q.1)) q.2)) → (fun s : Int32 × Int32 × px_M => px_W C k 52 [some (.inr (.inr (some x0))), some (.inl x1), some (.inl s.1), some (.inl x3), some (.inl s.2.1)] [] s.2.2) s := by
  intro s h0
  refine lpO_sound (P := (fun s : Int32 × Int32 × px_M => px_W C k 52 [some (.inr (.inr (some x0))), some (.inl x1), some (.inl s.1), some (.inl x3), some (.inl s.2.1)] [] s.2.2)) (fun s hs => ?_) h0
  obtain ⟨x2, x4, σ⟩ := s
  refine px_runG (h - 1) ck_130 [(14, Sg_14 (f_14 (px_tb C))), (31, Sg_31 (f_31 (px_tb C))), (127, Sg_127 (f_127 (px_tb C)))] [(37, kp_130_37 (fun y0 y1 y2 y3 τ => y0 = x0 ∧ y1 = x1 ∧ (fun s : Int32 × Int32 × px_M => ∀ (z4 : Option px_V), px_W C k 37 [some (.inr (.inr (some x0))), some (.inl x1), some (.inl s.1), some (.inl s.2.1), z4] [] s.2.2) (y2, y3, τ))), (52, kp_130_52 (fun y0 y1 y2 y3 y4 τ => y0 = x0 ∧ y1 = x1 ∧ y3 = x3 ∧ (fun s : Int32 × Int32 × px_M => px_W C k 52 [some (.inr (.inr (some x0))), some (.inl x1), some (.inl s.1), some (.inl x3), some (.inl s.2.1)] [] s.2.2) (y2, y4, τ)))] 80 hC (px_sp1 (mf_14 hn (by omega)) (px_sp1 (mf_31 hn (by omega)) (px_sp1 (mf_127 hn (by omega)) px_nosp))) (by omega) (px_cut1 (kq_130_37 (fun y0 y1 y2 y3 τ hq => by obtain ⟨rfl, rfl, hq⟩ := hq; exact hq)) (px_cut1 (kq_130_52 (fun y0 y1 y2 y3 y4 τ hq => by obtain ⟨rfl, rfl, rfl, hq⟩ := hq; exact hq)) px_nocut)) (fun G Jf hG hJf => ?_)
  simp only [F_130_52, oW_some, oW_none, oW_bind, oW_map, oW_ite, oW_bn, oW_gd, oW_oA, Sum.elim_inl, Sum.elim_inr, oW_and, true_and, and_true, false_and, and_false, true_or, or_true, false_or, or_false, and_self, or_self, not_false_eq_true, not_true_eq_false, false_implies, forall_const, true_implies, eq_self, ↓reduceIte] at hs
  simp only [↓hG, ↓hJf, ↓px_vc, ↓px_ex, ↓px_jp, ↓px_gi, ↓px_gl, ↓px_gr, ↓px_s1, ↓px_s2, ↓px_nl, ↓px_i1, ↓px_l1, ↓px_r1_o, ↓px_q1, ↓px_i2, ↓px_l2, ↓px_il, ↓px_d0, ↓px_d1, ↓px_d2, ↓px_pop, px_sz, ↓px_sp, ↓px_rd, ↓px_pt, ↓px_rok, ↓px_rv_o, ↓px_fill, ↓px_sl, ↓px_sw, ↓pn_SW, lc_lt, lc_ge, lc_gt, lc_le, lc_eq, ↓reduceIte, Nat.reduceEqDiff, Nat.reduceLeDiff, Nat.reduceAdd, Nat.reduceSub, reduceCtorEq, List.length_cons, List.length_nil, Option.toList_some, Option.toList_none, List.cons_append, List.nil_append, true_and, and_true, false_and, and_false, true_or, or_true, false_or, or_false, and_self, or_self, not_false_eq_true, not_true_eq_false, false_implies, forall_const, true_implies, eq_self, ↓kI_s, ↓kJ_s, ↓kN_s, ↓kO_s, ↓kZ_s, ↓kE_s, oW_and, ↓bk_130, ↓pn_i130, oW_some, oW_none, oW_bind, oW_map, oW_ite, oW_bn, oW_gd, oW_oA, Sum.elim_inl, Sum.elim_inr, ↓Sg_14, ↓Sg_31, ↓Sg_127, ↓kp_130_37, ↓kp_130_52]
  exact hs
set_option maxHeartbeats 4000000 in
set_option maxRecDepth 100000 in
theorem rl_130_37 {C : px_C} (hn : ((px_tb C).map Prod.fst).Nodup) {h : Nat} (hh : 2 ≤ h) (hC : px_ok C pn_i130 h) {k : Option px_V → px_M → Prop} {x0 : Nat} {x1 : Int32} : ∀ s : Int32 × Int32 × px_M, oW (f_130_37 (px_tb C) x0 x1 s.1 s.2.1 s.2.2) (fun q => k (some (.inl q.1)) q.2) → (fun s : Int32 × Int32 × px_M => ∀ (z4 : Option px_V), px_W C k 37 [some (.inr (.inr (some x0))), some (.inl x1), some (.inl s.1), some (.inl s.2.1), z4] [] s.2.2) s := by
  intro s h0
  refine lpO_sound (P := (fun s : Int32 × Int32 × px_M => ∀ (z4 : Option px_V), px_W C k 37 [some (.inr (.inr (some x0))), some (.inl x1), some (.inl s.1), some (.inl s.2.1), z4] [] s.2.2)) (fun s hs => ?_) h0
  obtain ⟨x2, x3, σ⟩ := s
  intro z4
  refine px_runG (h - 1) ck_130 [] [(52, kp_130_52 (fun y0 y1 y2 y3 y4 τ => y0 = x0 ∧ y1 = x1 ∧ oW (f_130_52 (px_tb C) y0 y1 y3 y2 y4 τ) (Sum.elim (fun s : Int32 × Int32 × px_M => ∀ (z4 : Option px_V), px_W C k 37 [some (.inr (.inr (some x0))), some (.inl x1), some (.inl s.1), some (.inl s.2.1), z4] [] s.2.2) (fun q => k (some (.inl q.1)) q.2))))] 80 hC px_nosp (by omega) (px_cut1 (kq_130_52 (fun y0 y1 y2 y3 y4 τ hq => by obtain ⟨rfl, rfl, hq⟩ := hq; exact rl_130_52 hn (by omega) hC (y2, y4, τ) hq)) px_nocut) (fun G Jf hG hJf => ?_)
  simp only [F_130_37, oW_some, oW_none, oW_bind, oW_map, oW_ite, oW_bn, oW_gd, oW_oA, Sum.elim_inl, Sum.elim_inr, oW_and, true_and, and_true, false_and, and_false, true_or, or_true, false_or, or_false, and_self, or_self, not_false_eq_true, not_true_eq_false, false_implies, forall_const, true_implies, eq_self, ↓reduceIte] at hs
  simp only [↓hG, ↓hJf, ↓px_vc, ↓px_ex, ↓px_jp, ↓px_gi, ↓px_gl, ↓px_gr, ↓px_s1, ↓px_s2, ↓px_nl, ↓px_i1, ↓px_l1, ↓px_r1_o, ↓px_q1, ↓px_i2, ↓px_l2, ↓px_il, ↓px_d0, ↓px_d1, ↓px_d2, ↓px_pop, px_sz, ↓px_sp, ↓px_rd, ↓px_pt, ↓px_rok, ↓px_rv_o, ↓px_fill, ↓px_sl, ↓px_sw, ↓pn_SW, lc_lt, lc_ge, lc_gt, lc_le, lc_eq, ↓reduceIte, Nat.reduceEqDiff, Nat.reduceLeDiff, Nat.reduceAdd, Nat.reduceSub, reduceCtorEq, List.length_cons, List.length_nil, Option.toList_some, Option.toList_none, List.cons_append, List.nil_append, true_and, and_true, false_and, and_false, true_or, or_true, false_or, or_false, and_self, or_self, not_false_eq_true, not_true_eq_false, false_implies, forall_const, true_implies, eq_self, ↓kI_s, ↓kJ_s, ↓kN_s, ↓kO_s, ↓kZ_s, ↓kE_s, oW_and, ↓bk_130, ↓pn_i130, oW_some, oW_none, oW_bind, oW_map, oW_ite, oW_bn, oW_gd, oW_oA, Sum.elim_inl, Sum.elim_inr, ↓kp_130_52]
  exact hs
set_option maxHeartbeats 4000000 in
set_option maxRecDepth 100000 in
theorem mf_130 {tab : px_T} (hn : (tab.map Prod.fst).Nodup) {h : Nat} (hh : 2 ≤ h) : px_Ok tab pn_i130 h (Sg_130 (f_130 tab)) := by
  refine px_mth hn (by decide +kernel) (fun av σ k hS => ?_) (fun C hT hC av σ k hS => ?_)
  · obtain ⟨x0, av0, e0, h0⟩ := px_r1_spec hS
    obtain ⟨x1, av1, e1, h1⟩ := px_i1_spec h0
    obtain ⟨ez, hz⟩ := h1
    subst ez
    subst e1
    subst e0
    exact Nat.le_of_ble_eq_true rfl
  · obtain ⟨x0, av0, e0, h0⟩ := px_r1_spec hS
    obtain ⟨x1, av1, e1, h1⟩ := px_i1_spec h0
    obtain ⟨ez, hz⟩ := h1
    subst ez
    subst e1
    subst e0
    subst hT
    refine px_runG (h - 1) ck_130 [(2, Sg_2 (f_2 (px_tb C)))] [(37, kp_130_37 (fun y0 y1 y2 y3 τ => oW (f_130_37 (px_tb C) y0 y1 y2 y3 τ) (fun q => k (some (.inl q.1)) q.2)))] 80 hC (px_sp1 (mf_2 hn (by omega)) px_nosp) (by omega) (px_cut1 (kq_130_37 (fun y0 y1 y2 y3 τ hq => by exact rl_130_37 hn (by omega) hC (y2, y3, τ) hq)) px_nocut) (fun G Jf hG hJf => ?_)
    simp only [f_130, oW_some, oW_none, oW_bind, oW_map, oW_ite, oW_bn, oW_gd, oW_oA, Sum.elim_inl, Sum.elim_inr, oW_and, true_and, and_true, false_and, and_false, true_or, or_true, false_or, or_false, and_self, or_self, not_false_eq_true, not_true_eq_false, false_implies, forall_const, true_implies, eq_self, ↓reduceIte] at hz
    simp only [↓hG, ↓hJf, ↓px_vc, ↓px_ex, ↓px_jp, ↓px_gi, ↓px_gl, ↓px_gr, ↓px_s1, ↓px_s2, ↓px_nl, ↓px_i1, ↓px_l1, ↓px_r1_o, ↓px_q1, ↓px_i2, ↓px_l2, ↓px_il, ↓px_d0, ↓px_d1, ↓px_d2, ↓px_pop, px_sz, ↓px_sp, ↓px_rd, ↓px_pt, ↓px_rok, ↓px_rv_o, ↓px_fill, ↓px_sl, ↓px_sw, ↓pn_SW, lc_lt, lc_ge, lc_gt, lc_le, lc_eq, ↓reduceIte, Nat.reduceEqDiff, Nat.reduceLeDiff, Nat.reduceAdd, Nat.reduceSub, reduceCtorEq, List.length_cons, List.length_nil, Option.toList_some, Option.toList_none, List.cons_append, List.nil_append, true_and, and_true, false_and, and_false, true_or, or_true, false_or, or_false, and_self, or_self, not_false_eq_true, not_true_eq_false, false_implies, forall_const, true_implies, eq_self, ↓kI_s, ↓kJ_s, ↓kN_s, ↓kO_s, ↓kZ_s, ↓kE_s, oW_and, ↓bk_130, ↓pn_i130, oW_some, oW_none, oW_bind, oW_map, oW_ite, oW_bn, oW_gd, oW_oA, Sum.elim_inl, Sum.elim_inr, ↓Sg_2, ↓kp_130_37]
    exact hz
/-- NoThreeModel.image(I)I -/
noncomputable def F_131_20 (tab : px_T) (x0 : Nat) (x1 : Int32) (x2 : Int32) (σ : px_M) : Option ((Int32 × px_M) ⊕ (Int32 × px_M)) := if (nI 1072) ≤ x2 then (gd (px_obj (px_lay tab x0) 0) ((((σ).2.2 x0 2)).bind fun n1 => oA (px_lay tab n1) fun t2 l3 => gd ((t2 = 1 ∧ ((nI 1)).toInt8.toInt32 = (nI 1)) ∨ (t2 = 2 ∧ ((nI 1) = nI 0 ∨ (nI 1) = nI 1))) (gd (vp_in x1 l3) (some (.inr (((nI 0), (px_wi σ n1 (x1).toNatClampNeg (nI 1))))))))) else (gd (px_obj (px_lay tab x0) 0) (gd (px_obj (px_lay tab x0) 0) ((((σ).2.2 x0 1)).bind fun n4 => oA (px_lay tab n4) fun t5 l6 => gd (t5 = 0) (gd (vp_in x2 l6) ((((σ).2.2 x0 1)).bind fun n7 => oA (px_lay tab n7) fun t8 l9 => gd (t8 = 0) (gd (vp_in (((nI 1072) * (x1 + (nI 1))) + x2) l9) (some (.inl (((x2 + (nI 1)), (px_wi σ n7 ((((nI 1072) * (x1 + (nI 1))) + x2)).toNatClampNeg ((σ).1 n4 (x2).toNatClampNeg))))))))))))
noncomputable def f_131_20 (tab : px_T) (x0 : Nat) (x1 : Int32) (x2 : Int32) (σ : px_M) : Option (Int32 × px_M) := lpO (fun s : Int32 × px_M => F_131_20 tab x0 x1 s.1 s.2) (x2, σ)
theorem f_131_20_eq (tab : px_T) (x0 : Nat) (x1 : Int32) (x2 : Int32) (σ : px_M) : f_131_20 tab x0 x1 x2 σ = (F_131_20 tab x0 x1 x2 σ).bind (Sum.elim (fun s => f_131_20 tab x0 x1 s.1 s.2) some) := lpO_eq _ _
noncomputable def f_131 (tab : px_T) (σ : px_M) (x0 : Nat) (x1 : Int32) : Option (Int32 × px_M) := gd (px_obj (px_lay tab x0) 0) ((f_2 tab (px_wi σ x0 0 (nI 0)) ((x1).toInt64) ((lN 0)) ((lN 1))).bind fun r1 => bn (r1 = nI 0) (f_131_20 tab x0 x1 ((nI 0)) ((px_wi σ x0 0 (nI 0)))) (some (((-2), (px_wi σ x0 0 (nI 0))))))
def Sg_131 (g : px_M → Nat → Int32 → Option (Int32 × px_M)) : px_S := fun av σ k => px_r1 av (fun x0 av => px_i1 av (fun x1 av => av = [] ∧ oW (g σ x0 x1) (fun q => k (some (.inl q.1)) q.2)))
def kp_131_20 (Q : Nat → Int32 → Int32 → px_M → Prop) : px_P := fun ls st τ => st = [] ∧ kN ls (fun x0 ls => kI ls (fun x1 ls => kI ls (fun x2 ls => kE ls (Q x0 x1 x2 τ))))
theorem kq_131_20 {C : px_C} {k : Option px_V → px_M → Prop} {Q : Nat → Int32 → Int32 → px_M → Prop} (H : ∀ (x0 : Nat) (x1 : Int32) (x2 : Int32) (τ : px_M), Q x0 x1 x2 τ → px_W C k 20 [some (.inr (.inr (some x0))), some (.inl x1), some (.inl x2)] [] τ) : ∀ ls st τ, kp_131_20 Q ls st τ → px_W C k 20 ls st τ := by
  intro ls st τ hz
  obtain ⟨ez, h0⟩ := hz
  obtain ⟨x0, l0, e0, h1⟩ := kN_sp h0
  obtain ⟨x1, l1, e1, h2⟩ := kI_sp h1
  obtain ⟨x2, l2, e2, h3⟩ := kI_sp h2
  obtain ⟨ey, hy⟩ := kE_sp h3
  subst ez
  subst ey
  subst e2
  subst e1
  subst e0
  exact H x0 x1 x2 τ hy
set_option maxHeartbeats 4000000 in
set_option maxRecDepth 100000 in
theorem rl_131_20 {C : px_C} (hn : ((px_tb C).map Prod.fst).Nodup) {h : Nat} (hh : 2 ≤ h) (hC : px_ok C pn_i131 h) {k : Option px_V → px_M → Prop} {x0 : Nat} {x1 : Int32} : ∀ s : Int32 × px_M, oW (f_131_20 (px_tb C) x0 x1 s.1 s.2) (fun q => k (some (.inl q.1)) q.2) → (fun s : Int32 × px_M => px_W C k 20 [some (.inr (.inr (some x0))), some (.inl x1), some (.inl s.1)] [] s.2) s := by
  intro s h0
  refine lpO_sound (P := (fun s : Int32 × px_M => px_W C k 20 [some (.inr (.inr (some x0))), some (.inl x1), some (.inl s.1)] [] s.2)) (fun s hs => ?_) h0
  obtain ⟨x2, σ⟩ := s
  refine px_runG (h - 1) ck_131 [] [(20, kp_131_20 (fun y0 y1 y2 τ => y0 = x0 ∧ y1 = x1 ∧ (fun s : Int32 × px_M => px_W C k 20 [some (.inr (.inr (some x0))), some (.inl x1), some (.inl s.1)] [] s.2) (y2, τ)))] 80 hC px_nosp (by omega) (px_cut1 (kq_131_20 (fun y0 y1 y2 τ hq => by obtain ⟨rfl, rfl, hq⟩ := hq; exact hq)) px_nocut) (fun G Jf hG hJf => ?_)
  simp only [F_131_20, oW_some, oW_none, oW_bind, oW_map, oW_ite, oW_bn, oW_gd, oW_oA, Sum.elim_inl, Sum.elim_inr, oW_and, true_and, and_true, false_and, and_false, true_or, or_true, false_or, or_false, and_self, or_self, not_false_eq_true, not_true_eq_false, false_implies, forall_const, true_implies, eq_self, ↓reduceIte] at hs
  simp only [↓hG, ↓hJf, ↓px_vc, ↓px_ex, ↓px_jp, ↓px_gi, ↓px_gl, ↓px_gr, ↓px_s1, ↓px_s2, ↓px_nl, ↓px_i1, ↓px_l1, ↓px_r1_o, ↓px_q1, ↓px_i2, ↓px_l2, ↓px_il, ↓px_d0, ↓px_d1, ↓px_d2, ↓px_pop, px_sz, ↓px_sp, ↓px_rd, ↓px_pt, ↓px_rok, ↓px_rv_o, ↓px_fill, ↓px_sl, ↓px_sw, ↓pn_SW, lc_lt, lc_ge, lc_gt, lc_le, lc_eq, ↓reduceIte, Nat.reduceEqDiff, Nat.reduceLeDiff, Nat.reduceAdd, Nat.reduceSub, reduceCtorEq, List.length_cons, List.length_nil, Option.toList_some, Option.toList_none, List.cons_append, List.nil_append, true_and, and_true, false_and, and_false, true_or, or_true, false_or, or_false, and_self, or_self, not_false_eq_true, not_true_eq_false, false_implies, forall_const, true_implies, eq_self, ↓kI_s, ↓kJ_s, ↓kN_s, ↓kO_s, ↓kZ_s, ↓kE_s, oW_and, ↓bk_131, ↓pn_i131, oW_some, oW_none, oW_bind, oW_map, oW_ite, oW_bn, oW_gd, oW_oA, Sum.elim_inl, Sum.elim_inr, ↓kp_131_20]
  exact hs
set_option maxHeartbeats 4000000 in
set_option maxRecDepth 100000 in
theorem mf_131 {tab : px_T} (hn : (tab.map Prod.fst).Nodup) {h : Nat} (hh : 2 ≤ h) : px_Ok tab pn_i131 h (Sg_131 (f_131 tab)) := by
  refine px_mth hn (by decide +kernel) (fun av σ k hS => ?_) (fun C hT hC av σ k hS => ?_)
  · obtain ⟨x0, av0, e0, h0⟩ := px_r1_spec hS
    obtain ⟨x1, av1, e1, h1⟩ := px_i1_spec h0
    obtain ⟨ez, hz⟩ := h1
    subst ez
    subst e1
    subst e0
    exact Nat.le_of_ble_eq_true rfl
  · obtain ⟨x0, av0, e0, h0⟩ := px_r1_spec hS
    obtain ⟨x1, av1, e1, h1⟩ := px_i1_spec h0
    obtain ⟨ez, hz⟩ := h1
    subst ez
    subst e1
    subst e0
    subst hT
    refine px_runG (h - 1) ck_131 [(2, Sg_2 (f_2 (px_tb C)))] [(20, kp_131_20 (fun y0 y1 y2 τ => oW (f_131_20 (px_tb C) y0 y1 y2 τ) (fun q => k (some (.inl q.1)) q.2)))] 80 hC (px_sp1 (mf_2 hn (by omega)) px_nosp) (by omega) (px_cut1 (kq_131_20 (fun y0 y1 y2 τ hq => by exact rl_131_20 hn (by omega) hC (y2, τ) hq)) px_nocut) (fun G Jf hG hJf => ?_)
    simp only [f_131, oW_some, oW_none, oW_bind, oW_map, oW_ite, oW_bn, oW_gd, oW_oA, Sum.elim_inl, Sum.elim_inr, oW_and, true_and, and_true, false_and, and_false, true_or, or_true, false_or, or_false, and_self, or_self, not_false_eq_true, not_true_eq_false, false_implies, forall_const, true_implies, eq_self, ↓reduceIte] at hz
    simp only [↓hG, ↓hJf, ↓px_vc, ↓px_ex, ↓px_jp, ↓px_gi, ↓px_gl, ↓px_gr, ↓px_s1, ↓px_s2, ↓px_nl, ↓px_i1, ↓px_l1, ↓px_r1_o, ↓px_q1, ↓px_i2, ↓px_l2, ↓px_il, ↓px_d0, ↓px_d1, ↓px_d2, ↓px_pop, px_sz, ↓px_sp, ↓px_rd, ↓px_pt, ↓px_rok, ↓px_rv_o, ↓px_fill, ↓px_sl, ↓px_sw, ↓pn_SW, lc_lt, lc_ge, lc_gt, lc_le, lc_eq, ↓reduceIte, Nat.reduceEqDiff, Nat.reduceLeDiff, Nat.reduceAdd, Nat.reduceSub, reduceCtorEq, List.length_cons, List.length_nil, Option.toList_some, Option.toList_none, List.cons_append, List.nil_append, true_and, and_true, false_and, and_false, true_or, or_true, false_or, or_false, and_self, or_self, not_false_eq_true, not_true_eq_false, false_implies, forall_const, true_implies, eq_self, ↓kI_s, ↓kJ_s, ↓kN_s, ↓kO_s, ↓kZ_s, ↓kE_s, oW_and, ↓bk_131, ↓pn_i131, oW_some, oW_none, oW_bind, oW_map, oW_ite, oW_bn, oW_gd, oW_oA, Sum.elim_inl, Sum.elim_inr, ↓Sg_2, ↓kp_131_20]
    exact hz
/-- NoThreeModel.restore(I)I -/
noncomputable def F_132_32 (tab : px_T) (x0 : Nat) (x1 : Int32) (x2 : Int32) (σ : px_M) : Option ((Int32 × px_M) ⊕ (Int32 × px_M)) := if (nI 1072) ≤ x2 then (some (.inr (((nI 0), σ)))) else (gd (px_obj (px_lay tab x0) 0) (gd (px_obj (px_lay tab x0) 0) ((((σ).2.2 x0 1)).bind fun n1 => oA (px_lay tab n1) fun t2 l3 => gd (t2 = 0) (gd (vp_in (((nI 1072) * (x1 + (nI 1))) + x2) l3) ((((σ).2.2 x0 1)).bind fun n4 => oA (px_lay tab n4) fun t5 l6 => gd (t5 = 0) (gd (vp_in x2 l6) (some (.inl (((x2 + (nI 1)), (px_wi σ n4 (x2).toNatClampNeg ((σ).1 n1 ((((nI 1072) * (x1 + (nI 1))) + x2)).toNatClampNeg))))))))))))
noncomputable def f_132_32 (tab : px_T) (x0 : Nat) (x1 : Int32) (x2 : Int32) (σ : px_M) : Option (Int32 × px_M) := lpO (fun s : Int32 × px_M => F_132_32 tab x0 x1 s.1 s.2) (x2, σ)
theorem f_132_32_eq (tab : px_T) (x0 : Nat) (x1 : Int32) (x2 : Int32) (σ : px_M) : f_132_32 tab x0 x1 x2 σ = (F_132_32 tab x0 x1 x2 σ).bind (Sum.elim (fun s => f_132_32 tab x0 x1 s.1 s.2) some) := lpO_eq _ _
noncomputable def f_132 (tab : px_T) (σ : px_M) (x0 : Nat) (x1 : Int32) : Option (Int32 × px_M) := gd (px_obj (px_lay tab x0) 0) ((f_2 tab (px_wi σ x0 0 (nI 0)) ((x1).toInt64) ((lN 0)) ((lN 1))).bind fun r1 => bn (r1 = nI 0) (gd (px_obj (px_lay tab x0) 0) (((((px_wi σ x0 0 (nI 0))).2.2 x0 2)).bind fun n2 => oA (px_lay tab n2) fun t3 l4 => gd (t3 = 1 ∨ t3 = 2) (gd (vp_in x1 l4) (bn ((((px_wi σ x0 0 (nI 0))).1 n2 (x1).toNatClampNeg) = nI 0) (f_132_32 tab x0 x1 ((nI 0)) ((px_wi σ x0 0 (nI 0)))) (some (((-5), (px_wi σ x0 0 (nI 0))))))))) (some (((-2), (px_wi σ x0 0 (nI 0))))))
def Sg_132 (g : px_M → Nat → Int32 → Option (Int32 × px_M)) : px_S := fun av σ k => px_r1 av (fun x0 av => px_i1 av (fun x1 av => av = [] ∧ oW (g σ x0 x1) (fun q => k (some (.inl q.1)) q.2)))
def kp_132_32 (Q : Nat → Int32 → Int32 → px_M → Prop) : px_P := fun ls st τ => st = [] ∧ kN ls (fun x0 ls => kI ls (fun x1 ls => kI ls (fun x2 ls => kE ls (Q x0 x1 x2 τ))))
theorem kq_132_32 {C : px_C} {k : Option px_V → px_M → Prop} {Q : Nat → Int32 → Int32 → px_M → Prop} (H : ∀ (x0 : Nat) (x1 : Int32) (x2 : Int32) (τ : px_M), Q x0 x1 x2 τ → px_W C k 32 [some (.inr (.inr (some x0))), some (.inl x1), some (.inl x2)] [] τ) : ∀ ls st τ, kp_132_32 Q ls st τ → px_W C k 32 ls st τ := by
  intro ls st τ hz
  obtain ⟨ez, h0⟩ := hz
  obtain ⟨x0, l0, e0, h1⟩ := kN_sp h0
  obtain ⟨x1, l1, e1, h2⟩ := kI_sp h1
  obtain ⟨x2, l2, e2, h3⟩ := kI_sp h2
  obtain ⟨ey, hy⟩ := kE_sp h3
  subst ez
  subst ey
  subst e2
  subst e1
  subst e0
  exact H x0 x1 x2 τ hy
set_option maxHeartbeats 4000000 in
set_option maxRecDepth 100000 in
theorem rl_132_32 {C : px_C} (hn : ((px_tb C).map Prod.fst).Nodup) {h : Nat} (hh : 2 ≤ h) (hC : px_ok C pn_i132 h) {k : Option px_V → px_M → Prop} {x0 : Nat} {x1 : Int32} : ∀ s : Int32 × px_M, oW (f_132_32 (px_tb C) x0 x1 s.1 s.2) (fun q => k (some (.inl q.1)) q.2) → (fun s : Int32 × px_M => px_W C k 32 [some (.inr (.inr (some x0))), some (.inl x1), some (.inl s.1)] [] s.2) s := by
  intro s h0
  refine lpO_sound (P := (fun s : Int32 × px_M => px_W C k 32 [some (.inr (.inr (some x0))), some (.inl x1), some (.inl s.1)] [] s.2)) (fun s hs => ?_) h0
  obtain ⟨x2, σ⟩ := s
  refine px_runG (h - 1) ck_132 [] [(32, kp_132_32 (fun y0 y1 y2 τ => y0 = x0 ∧ y1 = x1 ∧ (fun s : Int32 × px_M => px_W C k 32 [some (.inr (.inr (some x0))), some (.inl x1), some (.inl s.1)] [] s.2) (y2, τ)))] 80 hC px_nosp (by omega) (px_cut1 (kq_132_32 (fun y0 y1 y2 τ hq => by obtain ⟨rfl, rfl, hq⟩ := hq; exact hq)) px_nocut) (fun G Jf hG hJf => ?_)
  simp only [F_132_32, oW_some, oW_none, oW_bind, oW_map, oW_ite, oW_bn, oW_gd, oW_oA, Sum.elim_inl, Sum.elim_inr, oW_and, true_and, and_true, false_and, and_false, true_or, or_true, false_or, or_false, and_self, or_self, not_false_eq_true, not_true_eq_false, false_implies, forall_const, true_implies, eq_self, ↓reduceIte] at hs
  simp only [↓hG, ↓hJf, ↓px_vc, ↓px_ex, ↓px_jp, ↓px_gi, ↓px_gl, ↓px_gr, ↓px_s1, ↓px_s2, ↓px_nl, ↓px_i1, ↓px_l1, ↓px_r1_o, ↓px_q1, ↓px_i2, ↓px_l2, ↓px_il, ↓px_d0, ↓px_d1, ↓px_d2, ↓px_pop, px_sz, ↓px_sp, ↓px_rd, ↓px_pt, ↓px_rok, ↓px_rv_o, ↓px_fill, ↓px_sl, ↓px_sw, ↓pn_SW, lc_lt, lc_ge, lc_gt, lc_le, lc_eq, ↓reduceIte, Nat.reduceEqDiff, Nat.reduceLeDiff, Nat.reduceAdd, Nat.reduceSub, reduceCtorEq, List.length_cons, List.length_nil, Option.toList_some, Option.toList_none, List.cons_append, List.nil_append, true_and, and_true, false_and, and_false, true_or, or_true, false_or, or_false, and_self, or_self, not_false_eq_true, not_true_eq_false, false_implies, forall_const, true_implies, eq_self, ↓kI_s, ↓kJ_s, ↓kN_s, ↓kO_s, ↓kZ_s, ↓kE_s, oW_and, ↓bk_132, ↓pn_i132, oW_some, oW_none, oW_bind, oW_map, oW_ite, oW_bn, oW_gd, oW_oA, Sum.elim_inl, Sum.elim_inr, ↓kp_132_32]
  exact hs
set_option maxHeartbeats 4000000 in
set_option maxRecDepth 100000 in
theorem mf_132 {tab : px_T} (hn : (tab.map Prod.fst).Nodup) {h : Nat} (hh : 2 ≤ h) : px_Ok tab pn_i132 h (Sg_132 (f_132 tab)) := by
  refine px_mth hn (by decide +kernel) (fun av σ k hS => ?_) (fun C hT hC av σ k hS => ?_)
  · obtain ⟨x0, av0, e0, h0⟩ := px_r1_spec hS
    obtain ⟨x1, av1, e1, h1⟩ := px_i1_spec h0
    obtain ⟨ez, hz⟩ := h1
    subst ez
    subst e1
    subst e0
    exact Nat.le_of_ble_eq_true rfl
  · obtain ⟨x0, av0, e0, h0⟩ := px_r1_spec hS
    obtain ⟨x1, av1, e1, h1⟩ := px_i1_spec h0
    obtain ⟨ez, hz⟩ := h1
    subst ez
    subst e1
    subst e0
    subst hT
    refine px_runG (h - 1) ck_132 [(2, Sg_2 (f_2 (px_tb C)))] [(32, kp_132_32 (fun y0 y1 y2 τ => oW (f_132_32 (px_tb C) y0 y1 y2 τ) (fun q => k (some (.inl q.1)) q.2)))] 80 hC (px_sp1 (mf_2 hn (by omega)) px_nosp) (by omega) (px_cut1 (kq_132_32 (fun y0 y1 y2 τ hq => by exact rl_132_32 hn (by omega) hC (y2, τ) hq)) px_nocut) (fun G Jf hG hJf => ?_)
    simp only [f_132, oW_some, oW_none, oW_bind, oW_map, oW_ite, oW_bn, oW_gd, oW_oA, Sum.elim_inl, Sum.elim_inr, oW_and, true_and, and_true, false_and, and_false, true_or, or_true, false_or, or_false, and_self, or_self, not_false_eq_true, not_true_eq_false, false_implies, forall_const, true_implies, eq_self, ↓reduceIte] at hz
    simp only [↓hG, ↓hJf, ↓px_vc, ↓px_ex, ↓px_jp, ↓px_gi, ↓px_gl, ↓px_gr, ↓px_s1, ↓px_s2, ↓px_nl, ↓px_i1, ↓px_l1, ↓px_r1_o, ↓px_q1, ↓px_i2, ↓px_l2, ↓px_il, ↓px_d0, ↓px_d1, ↓px_d2, ↓px_pop, px_sz, ↓px_sp, ↓px_rd, ↓px_pt, ↓px_rok, ↓px_rv_o, ↓px_fill, ↓px_sl, ↓px_sw, ↓pn_SW, lc_lt, lc_ge, lc_gt, lc_le, lc_eq, ↓reduceIte, Nat.reduceEqDiff, Nat.reduceLeDiff, Nat.reduceAdd, Nat.reduceSub, reduceCtorEq, List.length_cons, List.length_nil, Option.toList_some, Option.toList_none, List.cons_append, List.nil_append, true_and, and_true, false_and, and_false, true_or, or_true, false_or, or_false, and_self, or_self, not_false_eq_true, not_true_eq_false, false_implies, forall_const, true_implies, eq_self, ↓kI_s, ↓kJ_s, ↓kN_s, ↓kO_s, ↓kZ_s, ↓kE_s, oW_and, ↓bk_132, ↓pn_i132, oW_some, oW_none, oW_bind, oW_map, oW_ite, oW_bn, oW_gd, oW_oA, Sum.elim_inl, Sum.elim_inr, ↓Sg_2, ↓kp_132_32]
    exact hz
