/-! shallow functions, printed by wip/whole/decomp.py -/
def Sg_132 (g : px_M → Nat → Int32 → Option (Int32 × px_M)) : px_S := fun av σ k => px_r1 av (fun x0 av => px_i1 av (fun x1 av => av = [] ∧ oW (g σ x0 x1) (fun q => k (some (.inl q.1)) q.2)))
/-- NoThreeModel.restore(I)I -/
noncomputable def F_132_32 (tab : px_T) (x0 : Nat) (x1 : Int32) (x2 : Int32) (σ : px_M) : Option ((Int32 × px_M) ⊕ (Int32 × px_M)) := if (nI 1072) ≤ x2 then (some (.inr (((nI 0), σ)))) else (gd (px_obj (px_lay tab x0) 0) (gd (px_obj (px_lay tab x0) 0) ((((σ).2.2 x0 1)).bind fun n1 => oA (px_lay tab n1) fun t2 l3 => gd (t2 = 0 ∨ t2 = 11) (gd (vp_in (((nI 1072) * (x1 + (nI 1))) + x2) l3) ((((σ).2.2 x0 1)).bind fun n4 => oA (px_lay tab n4) fun t5 l6 => gd (t5 = 0) (gd (vp_in x2 l6) (some (.inl (((x2 + (nI 1)), (px_wi σ n4 (x2).toNatClampNeg (px_av t2 σ n1 ((((nI 1072) * (x1 + (nI 1))) + x2)).toNatClampNeg))))))))))))
noncomputable def f_132_32 (tab : px_T) (x0 : Nat) (x1 : Int32) (x2 : Int32) (σ : px_M) : Option (Int32 × px_M) := lpO (fun s : Int32 × px_M => F_132_32 tab x0 x1 s.1 s.2) (x2, σ)
theorem f_132_32_eq (tab : px_T) (x0 : Nat) (x1 : Int32) (x2 : Int32) (σ : px_M) : f_132_32 tab x0 x1 x2 σ = (F_132_32 tab x0 x1 x2 σ).bind (Sum.elim (fun s => f_132_32 tab x0 x1 s.1 s.2) some) := lpO_eq _ _
noncomputable def f_132 (tab : px_T) (σ : px_M) (x0 : Nat) (x1 : Int32) : Option (Int32 × px_M) := gd (px_obj (px_lay tab x0) 0) ((f_2 tab (px_wi σ x0 0 (nI 0)) ((x1).toInt64) ((lN 0)) ((lN 1))).bind fun r1 => bn (r1 = nI 0) (gd (px_obj (px_lay tab x0) 0) (((((px_wi σ x0 0 (nI 0))).2.2 x0 2)).bind fun n2 => oA (px_lay tab n2) fun t3 l4 => gd (t3 = 1 ∨ t3 = 2 ∨ t3 = 10) (gd (vp_in x1 l4) (bn ((px_av t3 (px_wi σ x0 0 (nI 0)) n2 (x1).toNatClampNeg) = nI 0) (f_132_32 tab x0 x1 ((nI 0)) ((px_wi σ x0 0 (nI 0)))) (some (((-5), (px_wi σ x0 0 (nI 0))))))))) (some (((-2), (px_wi σ x0 0 (nI 0))))))
def kp_132_32 (Q : Nat → Int32 → Int32 → px_M → Prop) : px_P := fun ls st τ => st = [] ∧ kN ls (fun x0 ls => kI ls (fun x1 ls => kI ls (fun x2 ls => kE ls (Q x0 x1 x2 τ))))
theorem kq_132_32 {C : px_C} {k : Option px_V → px_M → Prop} {Q : Nat → Int32 → Int32 → px_M → Prop} (H : ∀ (x0 : Nat) (x1 : Int32) (x2 : Int32) (τ : px_M), Q x0 x1 x2 τ → px_W C k 32 [some (.inr (.inr (some x0))), some (.inl x1), some (.inl x2)] [] τ) : ∀ ls st τ, kp_132_32 Q ls st τ → px_W C k 32 ls st τ := by
  intro ls st τ hz
  obtain ⟨ez, h0⟩ := hz
  obtain ⟨x0, l0, e0, h1⟩ := kN_sp h0
  obtain ⟨x1, l1, e1, h2⟩ := kI_sp h1
  obtain ⟨x2, l2, e2, h3⟩ := kI_sp h2
  obtain ⟨ey, hy⟩ := kE_sp h3
  subst ez
  subst ey
  subst e2
  subst e1
  subst e0
  exact H x0 x1 x2 τ hy
set_option maxHeartbeats 4000000 in
set_option maxRecDepth 100000 in
theorem rl_132_32 {C : px_C} (hn : px_nd (px_tb C)) {h : Nat} (hh : 2 ≤ h) (hC : px_ok C pn_i132 h) {k : Option px_V → px_M → Prop} {x0 : Nat} {x1 : Int32} : ∀ s : Int32 × px_M, oW (f_132_32 (px_tb C) x0 x1 s.1 s.2) (fun q => k (some (.inl q.1)) q.2) → (fun s : Int32 × px_M => px_W C k 32 [some (.inr (.inr (some x0))), some (.inl x1), some (.inl s.1)] [] s.2) s := by
  intro s h0
  refine lpO_sound (P := (fun s : Int32 × px_M => px_W C k 32 [some (.inr (.inr (some x0))), some (.inl x1), some (.inl s.1)] [] s.2)) (fun s hs => ?_) h0
  obtain ⟨x2, σ⟩ := s
  refine px_runG (h - 1) ck_132 [] [(32, kp_132_32 (fun y0 y1 y2 τ => y0 = x0 ∧ y1 = x1 ∧ (fun s : Int32 × px_M => px_W C k 32 [some (.inr (.inr (some x0))), some (.inl x1), some (.inl s.1)] [] s.2) (y2, τ)))] 80 hC px_nosp (by omega) (px_cut1 (kq_132_32 (fun y0 y1 y2 τ hq => by obtain ⟨rfl, rfl, hq⟩ := hq; exact hq)) px_nocut) (fun G Jf hG hJf => ?_)
  simp only [F_132_32, oW_some, oW_none, oW_bind, oW_map, oW_ite, oW_bn, oW_gd, oW_oA, Sum.elim_inl, Sum.elim_inr, oW_and, true_and, and_true, false_and, and_false, true_or, or_true, false_or, or_false, and_self, or_self, not_false_eq_true, not_true_eq_false, false_implies, forall_const, true_implies, eq_self, ↓reduceIte] at hs
  simp only [↓hG, ↓hJf, ↓px_vc, ↓px_ex, ↓px_jp, ↓px_gi, ↓px_gl, ↓px_gr, ↓px_s1, ↓px_s2, ↓px_nl, ↓px_i1, ↓px_l1, ↓px_r1_o, ↓px_q1, ↓px_i2, ↓px_l2, ↓px_il, ↓px_d0, ↓px_d1, ↓px_d2, ↓px_pop, px_sz, ↓px_sp, ↓px_rd, ↓px_rf, ↓pn_xf, ↓px_pt, ↓px_rok, ↓px_rv_o, ↓px_fill, ↓px_sl, ↓px_sw, ↓pn_SW, lc_lt, lc_ge, lc_gt, lc_le, lc_eq, ↓reduceIte, Nat.reduceEqDiff, Nat.reduceLeDiff, Nat.reduceAdd, Nat.reduceSub, reduceCtorEq, List.length_cons, List.length_nil, Option.toList_some, Option.toList_none, List.cons_append, List.nil_append, true_and, and_true, false_and, and_false, true_or, or_true, false_or, or_false, and_self, or_self, not_false_eq_true, not_true_eq_false, false_implies, forall_const, true_implies, eq_self, ↓kI_s, ↓kJ_s, ↓kN_s, ↓kO_s, ↓kZ_s, ↓kE_s, oW_and, ↓bk_132, ↓pn_i132, oW_some, oW_none, oW_bind, oW_map, oW_ite, oW_bn, oW_gd, oW_oA, Sum.elim_inl, Sum.elim_inr, ↓kp_132_32]
  exact hs
set_option maxHeartbeats 4000000 in
set_option maxRecDepth 100000 in
theorem mf_132 {tab : px_T} (hn : px_nd tab) {h : Nat} (hh : 2 ≤ h) : px_Ok tab pn_i132 h (Sg_132 (f_132 tab)) := by
  refine px_mth hn (by decide +kernel) (fun av σ k hS => ?_) (fun C hT hC av σ k hS => ?_)
  · obtain ⟨x0, av0, e0, h0⟩ := px_r1_spec hS
    obtain ⟨x1, av1, e1, h1⟩ := px_i1_spec h0
    obtain ⟨ez, hz⟩ := h1
    subst ez
    subst e1
    subst e0
    exact Nat.le_of_ble_eq_true rfl
  · obtain ⟨x0, av0, e0, h0⟩ := px_r1_spec hS
    obtain ⟨x1, av1, e1, h1⟩ := px_i1_spec h0
    obtain ⟨ez, hz⟩ := h1
    subst ez
    subst e1
    subst e0
    subst hT
    refine px_runG (h - 1) ck_132 [(2, Sg_2 (f_2 (px_tb C)))] [(32, kp_132_32 (fun y0 y1 y2 τ => oW (f_132_32 (px_tb C) y0 y1 y2 τ) (fun q => k (some (.inl q.1)) q.2)))] 80 hC (px_sp1 (mf_2 hn (by omega)) px_nosp) (by omega) (px_cut1 (kq_132_32 (fun y0 y1 y2 τ hq => by exact rl_132_32 hn (by omega) hC (y2, τ) hq)) px_nocut) (fun G Jf hG hJf => ?_)
    simp only [f_132, oW_some, oW_none, oW_bind, oW_map, oW_ite, oW_bn, oW_gd, oW_oA, Sum.elim_inl, Sum.elim_inr, oW_and, true_and, and_true, false_and, and_false, true_or, or_true, false_or, or_false, and_self, or_self, not_false_eq_true, not_true_eq_false, false_implies, forall_const, true_implies, eq_self, ↓reduceIte] at hz
    simp only [↓hG, ↓hJf, ↓px_vc, ↓px_ex, ↓px_jp, ↓px_gi, ↓px_gl, ↓px_gr, ↓px_s1, ↓px_s2, ↓px_nl, ↓px_i1, ↓px_l1, ↓px_r1_o, ↓px_q1, ↓px_i2, ↓px_l2, ↓px_il, ↓px_d0, ↓px_d1, ↓px_d2, ↓px_pop, px_sz, ↓px_sp, ↓px_rd, ↓px_rf, ↓pn_xf, ↓px_pt, ↓px_rok, ↓px_rv_o, ↓px_fill, ↓px_sl, ↓px_sw, ↓pn_SW, lc_lt, lc_ge, lc_gt, lc_le, lc_eq, ↓reduceIte, Nat.reduceEqDiff, Nat.reduceLeDiff, Nat.reduceAdd, Nat.reduceSub, reduceCtorEq, List.length_cons, List.length_nil, Option.toList_some, Option.toList_none, List.cons_append, List.nil_append, true_and, and_true, false_and, and_false, true_or, or_true, false_or, or_false, and_self, or_self, not_false_eq_true, not_true_eq_false, false_implies, forall_const, true_implies, eq_self, ↓kI_s, ↓kJ_s, ↓kN_s, ↓kO_s, ↓kZ_s, ↓kE_s, oW_and, ↓bk_132, ↓pn_i132, oW_some, oW_none, oW_bind, oW_map, oW_ite, oW_bn, oW_gd, oW_oA, Sum.elim_inl, Sum.elim_inr, ↓Sg_2, ↓kp_132_32]
    exact hz
def Sg_133 (g : px_M → Nat → Option (Int32 × px_M)) : px_S := fun av σ k => px_r1 av (fun x0 av => av = [] ∧ oW (g σ x0) (fun q => k (some (.inl q.1)) q.2))
/-- NoThreeModel.parts()I -/
noncomputable def F_133_6 (tab : px_T) (x0 : Nat) (x1 : Int32) (x2 : Int32) (x3 : Int32) (σ : px_M) : Option ((Int32 × Int32 × Int32 × px_M) ⊕ (Int32 × px_M)) := gd (px_obj (px_lay tab x0) 0) ((((σ).2.2 x0 1)).bind fun n1 => oA (px_lay tab n1) fun t2 l3 => gd (t2 = 0 ∨ t2 = 11) (gd (vp_in (nI 1) l3) (if (px_av t2 σ n1 ((nI 1)).toNatClampNeg) ≤ x3 then (some (.inr ((x1, σ)))) else ((f_14 tab σ ((x2).toInt64) x3).bind fun r4 => if r4 = nI 0 then (gd (px_obj (px_lay tab x0) 0) ((f_36 tab σ x0 x3).bind fun q5 => some (.inl (((x1 + (nI 1)), (x2 ||| q5.1), (x3 + (nI 1)), q5.2))))) else (some (.inl ((x1, x2, (x3 + (nI 1)), σ))))))))
noncomputable def f_133_6 (tab : px_T) (x0 : Nat) (x1 : Int32) (x2 : Int32) (x3 : Int32) (σ : px_M) : Option (Int32 × px_M) := lpO (fun s : Int32 × Int32 × Int32 × px_M => F_133_6 tab x0 s.1 s.2.1 s.2.2.1 s.2.2.2) (x1, x2, x3, σ)
theorem f_133_6_eq (tab : px_T) (x0 : Nat) (x1 : Int32) (x2 : Int32) (x3 : Int32) (σ : px_M) : f_133_6 tab x0 x1 x2 x3 σ = (F_133_6 tab x0 x1 x2 x3 σ).bind (Sum.elim (fun s => f_133_6 tab x0 s.1 s.2.1 s.2.2.1 s.2.2.2) some) := lpO_eq _ _
noncomputable def f_133 (tab : px_T) (σ : px_M) (x0 : Nat) : Option (Int32 × px_M) := f_133_6 tab x0 ((nI 0)) ((nI 0)) ((nI 0)) σ
def kp_133_6 (Q : Nat → Int32 → Int32 → Int32 → px_M → Prop) : px_P := fun ls st τ => st = [] ∧ kN ls (fun x0 ls => kI ls (fun x1 ls => kI ls (fun x2 ls => kI ls (fun x3 ls => kE ls (Q x0 x1 x2 x3 τ)))))
theorem kq_133_6 {C : px_C} {k : Option px_V → px_M → Prop} {Q : Nat → Int32 → Int32 → Int32 → px_M → Prop} (H : ∀ (x0 : Nat) (x1 : Int32) (x2 : Int32) (x3 : Int32) (τ : px_M), Q x0 x1 x2 x3 τ → px_W C k 6 [some (.inr (.inr (some x0))), some (.inl x1), some (.inl x2), some (.inl x3)] [] τ) : ∀ ls st τ, kp_133_6 Q ls st τ → px_W C k 6 ls st τ := by
  intro ls st τ hz
  obtain ⟨ez, h0⟩ := hz
  obtain ⟨x0, l0, e0, h1⟩ := kN_sp h0
  obtain ⟨x1, l1, e1, h2⟩ := kI_sp h1
  obtain ⟨x2, l2, e2, h3⟩ := kI_sp h2
  obtain ⟨x3, l3, e3, h4⟩ := kI_sp h3
  obtain ⟨ey, hy⟩ := kE_sp h4
  subst ez
  subst ey
  subst e3
  subst e2
  subst e1
  subst e0
  exact H x0 x1 x2 x3 τ hy
set_option maxHeartbeats 4000000 in
set_option maxRecDepth 100000 in
theorem rl_133_6 {C : px_C} (hn : px_nd (px_tb C)) {h : Nat} (hh : 4 ≤ h) (hC : px_ok C pn_i133 h) {k : Option px_V → px_M → Prop} {x0 : Nat} : ∀ s : Int32 × Int32 × Int32 × px_M, oW (f_133_6 (px_tb C) x0 s.1 s.2.1 s.2.2.1 s.2.2.2) (fun q => k (some (.inl q.1)) q.2) → (fun s : Int32 × Int32 × Int32 × px_M => px_W C k 6 [some (.inr (.inr (some x0))), some (.inl s.1), some (.inl s.2.1), some (.inl s.2.2.1)] [] s.2.2.2) s := by
  intro s h0
  refine lpO_sound (P := (fun s : Int32 × Int32 × Int32 × px_M => px_W C k 6 [some (.inr (.inr (some x0))), some (.inl s.1), some (.inl s.2.1), some (.inl s.2.2.1)] [] s.2.2.2)) (fun s hs => ?_) h0
  obtain ⟨x1, x2, x3, σ⟩ := s
  refine px_runG (h - 1) ck_133 [(14, Sg_14 (f_14 (px_tb C))), (36, Sg_36 (f_36 (px_tb C)))] [(6, kp_133_6 (fun y0 y1 y2 y3 τ => y0 = x0 ∧ (fun s : Int32 × Int32 × Int32 × px_M => px_W C k 6 [some (.inr (.inr (some x0))), some (.inl s.1), some (.inl s.2.1), some (.inl s.2.2.1)] [] s.2.2.2) (y1, y2, y3, τ)))] 80 hC (px_sp1 (mf_14 hn (by omega)) (px_sp1 (mf_36 hn (by omega)) px_nosp)) (by omega) (px_cut1 (kq_133_6 (fun y0 y1 y2 y3 τ hq => by obtain ⟨rfl, hq⟩ := hq; exact hq)) px_nocut) (fun G Jf hG hJf => ?_)
  simp only [F_133_6, oW_some, oW_none, oW_bind, oW_map, oW_ite, oW_bn, oW_gd, oW_oA, Sum.elim_inl, Sum.elim_inr, oW_and, true_and, and_true, false_and, and_false, true_or, or_true, false_or, or_false, and_self, or_self, not_false_eq_true, not_true_eq_false, false_implies, forall_const, true_implies, eq_self, ↓reduceIte] at hs
  simp only [↓hG, ↓hJf, ↓px_vc, ↓px_ex, ↓px_jp, ↓px_gi, ↓px_gl, ↓px_gr, ↓px_s1, ↓px_s2, ↓px_nl, ↓px_i1, ↓px_l1, ↓px_r1_o, ↓px_q1, ↓px_i2, ↓px_l2, ↓px_il, ↓px_d0, ↓px_d1, ↓px_d2, ↓px_pop, px_sz, ↓px_sp, ↓px_rd, ↓px_rf, ↓pn_xf, ↓px_pt, ↓px_rok, ↓px_rv_o, ↓px_fill, ↓px_sl, ↓px_sw, ↓pn_SW, lc_lt, lc_ge, lc_gt, lc_le, lc_eq, ↓reduceIte, Nat.reduceEqDiff, Nat.reduceLeDiff, Nat.reduceAdd, Nat.reduceSub, reduceCtorEq, List.length_cons, List.length_nil, Option.toList_some, Option.toList_none, List.cons_append, List.nil_append, true_and, and_true, false_and, and_false, true_or, or_true, false_or, or_false, and_self, or_self, not_false_eq_true, not_true_eq_false, false_implies, forall_const, true_implies, eq_self, ↓kI_s, ↓kJ_s, ↓kN_s, ↓kO_s, ↓kZ_s, ↓kE_s, oW_and, ↓bk_133, ↓pn_i133, oW_some, oW_none, oW_bind, oW_map, oW_ite, oW_bn, oW_gd, oW_oA, Sum.elim_inl, Sum.elim_inr, ↓Sg_14, ↓Sg_36, ↓kp_133_6]
  exact hs
set_option maxHeartbeats 4000000 in
set_option maxRecDepth 100000 in
theorem mf_133 {tab : px_T} (hn : px_nd tab) {h : Nat} (hh : 4 ≤ h) : px_Ok tab pn_i133 h (Sg_133 (f_133 tab)) := by
  refine px_mth hn (by decide +kernel) (fun av σ k hS => ?_) (fun C hT hC av σ k hS => ?_)
  · obtain ⟨x0, av0, e0, h0⟩ := px_r1_spec hS
    obtain ⟨ez, hz⟩ := h0
    subst ez
    subst e0
    exact Nat.le_of_ble_eq_true rfl
  · obtain ⟨x0, av0, e0, h0⟩ := px_r1_spec hS
    obtain ⟨ez, hz⟩ := h0
    subst ez
    subst e0
    subst hT
    refine px_runG (h - 1) ck_133 [] [(6, kp_133_6 (fun y0 y1 y2 y3 τ => oW (f_133_6 (px_tb C) y0 y1 y2 y3 τ) (fun q => k (some (.inl q.1)) q.2)))] 80 hC px_nosp (by omega) (px_cut1 (kq_133_6 (fun y0 y1 y2 y3 τ hq => by exact rl_133_6 hn (by omega) hC (y1, y2, y3, τ) hq)) px_nocut) (fun G Jf hG hJf => ?_)
    simp only [f_133, oW_some, oW_none, oW_bind, oW_map, oW_ite, oW_bn, oW_gd, oW_oA, Sum.elim_inl, Sum.elim_inr, oW_and, true_and, and_true, false_and, and_false, true_or, or_true, false_or, or_false, and_self, or_self, not_false_eq_true, not_true_eq_false, false_implies, forall_const, true_implies, eq_self, ↓reduceIte] at hz
    simp only [↓hG, ↓hJf, ↓px_vc, ↓px_ex, ↓px_jp, ↓px_gi, ↓px_gl, ↓px_gr, ↓px_s1, ↓px_s2, ↓px_nl, ↓px_i1, ↓px_l1, ↓px_r1_o, ↓px_q1, ↓px_i2, ↓px_l2, ↓px_il, ↓px_d0, ↓px_d1, ↓px_d2, ↓px_pop, px_sz, ↓px_sp, ↓px_rd, ↓px_rf, ↓pn_xf, ↓px_pt, ↓px_rok, ↓px_rv_o, ↓px_fill, ↓px_sl, ↓px_sw, ↓pn_SW, lc_lt, lc_ge, lc_gt, lc_le, lc_eq, ↓reduceIte, Nat.reduceEqDiff, Nat.reduceLeDiff, Nat.reduceAdd, Nat.reduceSub, reduceCtorEq, List.length_cons, List.length_nil, Option.toList_some, Option.toList_none, List.cons_append, List.nil_append, true_and, and_true, false_and, and_false, true_or, or_true, false_or, or_false, and_self, or_self, not_false_eq_true, not_true_eq_false, false_implies, forall_const, true_implies, eq_self, ↓kI_s, ↓kJ_s, ↓kN_s, ↓kO_s, ↓kZ_s, ↓kE_s, oW_and, ↓bk_133, ↓pn_i133, oW_some, oW_none, oW_bind, oW_map, oW_ite, oW_bn, oW_gd, oW_oA, Sum.elim_inl, Sum.elim_inr, ↓kp_133_6]
    exact hz
def Sg_134 (g : px_M → Nat → Int32 → Option (Int32 × px_M)) : px_S := fun av σ k => px_r1 av (fun x0 av => px_i1 av (fun x1 av => av = [] ∧ oW (g σ x0 x1) (fun q => k (some (.inl q.1)) q.2)))
/-- NoThreeModel.count(I)I -/
noncomputable def f_134 (tab : px_T) (σ : px_M) (x0 : Nat) (x1 : Int32) : Option (Int32 × px_M) := gd (px_obj (px_lay tab x0) 0) ((if x1 = nI 0 then (gd (px_obj (px_lay tab x0) 0) (((((px_wi σ x0 0 (nI 0))).2.2 x0 1)).bind fun n13 => oA (px_lay tab n13) fun t14 l15 => gd (t14 = 0 ∨ t14 = 11) (gd (vp_in (nI 1) l15) (some (((px_av t14 (px_wi σ x0 0 (nI 0)) n13 ((nI 1)).toNatClampNeg), (px_wi σ x0 0 (nI 0)))))))) else (if x1 = nI 1 then (gd (px_obj (px_lay tab x0) 0) ((f_45 tab (px_wi σ x0 0 (nI 0)) x0).bind fun r12 => some ((r12, (px_wi σ x0 0 (nI 0)))))) else (if x1 = nI 2 then (gd (px_obj (px_lay tab x0) 0) (((((px_wi σ x0 0 (nI 0))).2.2 x0 1)).bind fun n9 => oA (px_lay tab n9) fun t10 l11 => gd (t10 = 0 ∨ t10 = 11) (gd (vp_in (nI 158) l11) (some (((px_av t10 (px_wi σ x0 0 (nI 0)) n9 ((nI 158)).toNatClampNeg), (px_wi σ x0 0 (nI 0)))))))) else (if x1 = nI 3 then (gd (px_obj (px_lay tab x0) 0) (((((px_wi σ x0 0 (nI 0))).2.2 x0 1)).bind fun n6 => oA (px_lay tab n6) fun t7 l8 => gd (t7 = 0 ∨ t7 = 11) (gd (vp_in (nI 13) l8) (some (((px_av t7 (px_wi σ x0 0 (nI 0)) n6 ((nI 13)).toNatClampNeg), (px_wi σ x0 0 (nI 0)))))))) else (if x1 = nI 4 then (gd (px_obj (px_lay tab x0) 0) ((f_73 tab (px_wi σ x0 0 (nI 0)) x0).bind fun r5 => some ((r5, (px_wi σ x0 0 (nI 0)))))) else (if x1 = nI 5 then (gd (px_obj (px_lay tab x0) 0) ((f_133 tab (px_wi σ x0 0 (nI 0)) x0).bind fun q4 => some ((q4.1, q4.2)))) else (if x1 = nI 6 then (gd (px_obj (px_lay tab x0) 0) (some (((((px_wi σ x0 0 (nI 0))).1 x0 5), (px_wi σ x0 0 (nI 0)))))) else (if x1 = nI 7 then (gd (px_obj (px_lay tab x0) 0) (((((px_wi σ x0 0 (nI 0))).2.2 x0 1)).bind fun n1 => oA (px_lay tab n1) fun t2 l3 => gd (t2 = 0 ∨ t2 = 11) (gd (vp_in (nI 0) l3) (some (((px_av t2 (px_wi σ x0 0 (nI 0)) n1 ((nI 0)).toNatClampNeg), (px_wi σ x0 0 (nI 0)))))))) else (some (((-1), (px_wi σ x0 0 (nI 0))))))))))))))
set_option maxHeartbeats 4000000 in
set_option maxRecDepth 100000 in
theorem mf_134 {tab : px_T} (hn : px_nd tab) {h : Nat} (hh : 5 ≤ h) : px_Ok tab pn_i134 h (Sg_134 (f_134 tab)) := by
  refine px_mth hn (by decide +kernel) (fun av σ k hS => ?_) (fun C hT hC av σ k hS => ?_)
  · obtain ⟨x0, av0, e0, h0⟩ := px_r1_spec hS
    obtain ⟨x1, av1, e1, h1⟩ := px_i1_spec h0
    obtain ⟨ez, hz⟩ := h1
    subst ez
    subst e1
    subst e0
    exact Nat.le_of_ble_eq_true rfl
  · obtain ⟨x0, av0, e0, h0⟩ := px_r1_spec hS
    obtain ⟨x1, av1, e1, h1⟩ := px_i1_spec h0
    obtain ⟨ez, hz⟩ := h1
    subst ez
    subst e1
    subst e0
    subst hT
    refine px_runG (h - 1) ck_134 [(45, Sg_45 (f_45 (px_tb C))), (73, Sg_73 (f_73 (px_tb C))), (133, Sg_133 (f_133 (px_tb C)))] [] 80 hC (px_sp1 (mf_45 hn (by omega)) (px_sp1 (mf_73 hn (by omega)) (px_sp1 (mf_133 hn (by omega)) px_nosp))) (by omega) px_nocut (fun G Jf hG hJf => ?_)
    simp only [f_134, oW_some, oW_none, oW_bind, oW_map, oW_ite, oW_bn, oW_gd, oW_oA, Sum.elim_inl, Sum.elim_inr, oW_and, true_and, and_true, false_and, and_false, true_or, or_true, false_or, or_false, and_self, or_self, not_false_eq_true, not_true_eq_false, false_implies, forall_const, true_implies, eq_self, ↓reduceIte] at hz
    simp only [↓hG, ↓hJf, ↓px_vc, ↓px_ex, ↓px_jp, ↓px_gi, ↓px_gl, ↓px_gr, ↓px_s1, ↓px_s2, ↓px_nl, ↓px_i1, ↓px_l1, ↓px_r1_o, ↓px_q1, ↓px_i2, ↓px_l2, ↓px_il, ↓px_d0, ↓px_d1, ↓px_d2, ↓px_pop, px_sz, ↓px_sp, ↓px_rd, ↓px_rf, ↓pn_xf, ↓px_pt, ↓px_rok, ↓px_rv_o, ↓px_fill, ↓px_sl, ↓px_sw, ↓pn_SW, lc_lt, lc_ge, lc_gt, lc_le, lc_eq, ↓reduceIte, Nat.reduceEqDiff, Nat.reduceLeDiff, Nat.reduceAdd, Nat.reduceSub, reduceCtorEq, List.length_cons, List.length_nil, Option.toList_some, Option.toList_none, List.cons_append, List.nil_append, true_and, and_true, false_and, and_false, true_or, or_true, false_or, or_false, and_self, or_self, not_false_eq_true, not_true_eq_false, false_implies, forall_const, true_implies, eq_self, ↓kI_s, ↓kJ_s, ↓kN_s, ↓kO_s, ↓kZ_s, ↓kE_s, oW_and, ↓bk_134, ↓pn_i134, oW_some, oW_none, oW_bind, oW_map, oW_ite, oW_bn, oW_gd, oW_oA, Sum.elim_inl, Sum.elim_inr, ↓Sg_45, ↓Sg_73, ↓Sg_133]
    exact hz
def Sg_10003 (g : px_M → Nat → Nat → Option (px_M)) : px_S := fun av σ k => px_r1 av (fun x0 av => px_r1 av (fun x1 av => av = [] ∧ oW (g σ x0 x1) (fun τ => k none τ)))
/-- NoThree$Rules.become(LNoThree$Rules;)V -/
noncomputable def F_10003_70 (tab : px_T) (x0 : Nat) (x1 : Nat) (x2 : Int32) (σ : px_M) : Option ((Int32 × px_M) ⊕ (px_M)) := gd (px_obj (px_lay tab x0) 10) (if ((σ).1 x0 4) ≤ x2 then (some (.inr (σ))) else (if (nI 900) ≤ x2 then (some (.inr (σ))) else (gd (px_obj (px_lay tab x0) 10) (gd (px_obj (px_lay tab x1) 10) ((((σ).2.2 x1 3)).bind fun n1 => oA (px_lay tab n1) fun t2 l3 => gd (t2 = 0 ∨ t2 = 11) (gd (vp_in x2 l3) ((((σ).2.2 x0 3)).bind fun n4 => oA (px_lay tab n4) fun t5 l6 => gd (t5 = 0) (gd (vp_in x2 l6) (some (.inl (((x2 + (nI 1)), (px_wi σ n4 (x2).toNatClampNeg (px_av t2 σ n1 (x2).toNatClampNeg))))))))))))))
noncomputable def f_10003_70 (tab : px_T) (x0 : Nat) (x1 : Nat) (x2 : Int32) (σ : px_M) : Option (px_M) := lpO (fun s : Int32 × px_M => F_10003_70 tab x0 x1 s.1 s.2) (x2, σ)
theorem f_10003_70_eq (tab : px_T) (x0 : Nat) (x1 : Nat) (x2 : Int32) (σ : px_M) : f_10003_70 tab x0 x1 x2 σ = (F_10003_70 tab x0 x1 x2 σ).bind (Sum.elim (fun s => f_10003_70 tab x0 x1 s.1 s.2) some) := lpO_eq _ _
noncomputable def F_10003_44 (tab : px_T) (x0 : Nat) (x1 : Nat) (x2 : Int32) (σ : px_M) : Option ((Int32 × px_M) ⊕ (px_M)) := if (nI 6) ≤ x2 then (Option.map Sum.inr (f_10003_70 tab x0 x1 ((nI 0)) σ)) else (gd (px_obj (px_lay tab x0) 10) (gd (px_obj (px_lay tab x1) 10) ((((σ).2.2 x1 2)).bind fun n1 => oA (px_lay tab n1) fun t2 l3 => gd (t2 = 0 ∨ t2 = 11) (gd (vp_in x2 l3) ((((σ).2.2 x0 2)).bind fun n4 => oA (px_lay tab n4) fun t5 l6 => gd (t5 = 0) (gd (vp_in x2 l6) (some (.inl (((x2 + (nI 1)), (px_wi σ n4 (x2).toNatClampNeg (px_av t2 σ n1 (x2).toNatClampNeg))))))))))))
noncomputable def f_10003_44 (tab : px_T) (x0 : Nat) (x1 : Nat) (x2 : Int32) (σ : px_M) : Option (px_M) := lpO (fun s : Int32 × px_M => F_10003_44 tab x0 x1 s.1 s.2) (x2, σ)
theorem f_10003_44_eq (tab : px_T) (x0 : Nat) (x1 : Nat) (x2 : Int32) (σ : px_M) : f_10003_44 tab x0 x1 x2 σ = (F_10003_44 tab x0 x1 x2 σ).bind (Sum.elim (fun s => f_10003_44 tab x0 x1 s.1 s.2) some) := lpO_eq _ _
noncomputable def F_10003_18 (tab : px_T) (x0 : Nat) (x1 : Nat) (x2 : Int32) (σ : px_M) : Option ((Int32 × px_M) ⊕ (px_M)) := if (nI 6) < x2 then (Option.map Sum.inr (f_10003_44 tab x0 x1 ((nI 0)) σ)) else (gd (px_obj (px_lay tab x0) 10) (gd (px_obj (px_lay tab x1) 10) ((((σ).2.2 x1 1)).bind fun n1 => oA (px_lay tab n1) fun t2 l3 => gd (t2 = 0 ∨ t2 = 11) (gd (vp_in x2 l3) ((((σ).2.2 x0 1)).bind fun n4 => oA (px_lay tab n4) fun t5 l6 => gd (t5 = 0) (gd (vp_in x2 l6) (some (.inl (((x2 + (nI 1)), (px_wi σ n4 (x2).toNatClampNeg (px_av t2 σ n1 (x2).toNatClampNeg))))))))))))
noncomputable def f_10003_18 (tab : px_T) (x0 : Nat) (x1 : Nat) (x2 : Int32) (σ : px_M) : Option (px_M) := lpO (fun s : Int32 × px_M => F_10003_18 tab x0 x1 s.1 s.2) (x2, σ)
theorem f_10003_18_eq (tab : px_T) (x0 : Nat) (x1 : Nat) (x2 : Int32) (σ : px_M) : f_10003_18 tab x0 x1 x2 σ = (F_10003_18 tab x0 x1 x2 σ).bind (Sum.elim (fun s => f_10003_18 tab x0 x1 s.1 s.2) some) := lpO_eq _ _
noncomputable def f_10003 (tab : px_T) (σ : px_M) (x0 : Nat) (x1 : Nat) : Option (px_M) := gd (px_obj (px_lay tab x1) 10) (gd (px_obj (px_lay tab x0) 10) (gd (px_obj (px_lay tab x1) 10) (gd (px_obj (px_lay tab x0) 10) (f_10003_18 tab x0 x1 ((nI 0)) ((px_wi (px_wi σ x0 0 ((σ).1 x1 0)) x0 4 (((px_wi σ x0 0 ((σ).1 x1 0))).1 x1 4)))))))
def kp_10003_70 (Q : Nat → Nat → Int32 → px_M → Prop) : px_P := fun ls st τ => st = [] ∧ kN ls (fun x0 ls => kN ls (fun x1 ls => kI ls (fun x2 ls => kE ls (Q x0 x1 x2 τ))))
theorem kq_10003_70 {C : px_C} {k : Option px_V → px_M → Prop} {Q : Nat → Nat → Int32 → px_M → Prop} (H : ∀ (x0 : Nat) (x1 : Nat) (x2 : Int32) (τ : px_M), Q x0 x1 x2 τ → px_W C k 70 [some (.inr (.inr (some x0))), some (.inr (.inr (some x1))), some (.inl x2)] [] τ) : ∀ ls st τ, kp_10003_70 Q ls st τ → px_W C k 70 ls st τ := by
  intro ls st τ hz
  obtain ⟨ez, h0⟩ := hz
  obtain ⟨x0, l0, e0, h1⟩ := kN_sp h0
  obtain ⟨x1, l1, e1, h2⟩ := kN_sp h1
  obtain ⟨x2, l2, e2, h3⟩ := kI_sp h2
  obtain ⟨ey, hy⟩ := kE_sp h3
  subst ez
  subst ey
  subst e2
  subst e1
  subst e0
  exact H x0 x1 x2 τ hy
def kp_10003_44 (Q : Nat → Nat → Int32 → px_M → Prop) : px_P := fun ls st τ => st = [] ∧ kN ls (fun x0 ls => kN ls (fun x1 ls => kI ls (fun x2 ls => kE ls (Q x0 x1 x2 τ))))
theorem kq_10003_44 {C : px_C} {k : Option px_V → px_M → Prop} {Q : Nat → Nat → Int32 → px_M → Prop} (H : ∀ (x0 : Nat) (x1 : Nat) (x2 : Int32) (τ : px_M), Q x0 x1 x2 τ → px_W C k 44 [some (.inr (.inr (some x0))), some (.inr (.inr (some x1))), some (.inl x2)] [] τ) : ∀ ls st τ, kp_10003_44 Q ls st τ → px_W C k 44 ls st τ := by
  intro ls st τ hz
  obtain ⟨ez, h0⟩ := hz
  obtain ⟨x0, l0, e0, h1⟩ := kN_sp h0
  obtain ⟨x1, l1, e1, h2⟩ := kN_sp h1
  obtain ⟨x2, l2, e2, h3⟩ := kI_sp h2
  obtain ⟨ey, hy⟩ := kE_sp h3
  subst ez
  subst ey
  subst e2
  subst e1
  subst e0
  exact H x0 x1 x2 τ hy
def kp_10003_18 (Q : Nat → Nat → Int32 → px_M → Prop) : px_P := fun ls st τ => st = [] ∧ kN ls (fun x0 ls => kN ls (fun x1 ls => kI ls (fun x2 ls => kE ls (Q x0 x1 x2 τ))))
theorem kq_10003_18 {C : px_C} {k : Option px_V → px_M → Prop} {Q : Nat → Nat → Int32 → px_M → Prop} (H : ∀ (x0 : Nat) (x1 : Nat) (x2 : Int32) (τ : px_M), Q x0 x1 x2 τ → px_W C k 18 [some (.inr (.inr (some x0))), some (.inr (.inr (some x1))), some (.inl x2)] [] τ) : ∀ ls st τ, kp_10003_18 Q ls st τ → px_W C k 18 ls st τ := by
  intro ls st τ hz
  obtain ⟨ez, h0⟩ := hz
  obtain ⟨x0, l0, e0, h1⟩ := kN_sp h0
  obtain ⟨x1, l1, e1, h2⟩ := kN_sp h1
  obtain ⟨x2, l2, e2, h3⟩ := kI_sp h2
  obtain ⟨ey, hy⟩ := kE_sp h3
  subst ez
  subst ey
  subst e2
  subst e1
  subst e0
  exact H x0 x1 x2 τ hy
set_option maxHeartbeats 4000000 in
set_option maxRecDepth 100000 in
theorem rl_10003_70 {C : px_C} (hn : px_nd (px_tb C)) {h : Nat} (hh : 1 ≤ h) (hC : px_ok C pn_i10003 h) {k : Option px_V → px_M → Prop} {x0 : Nat} {x1 : Nat} : ∀ s : Int32 × px_M, oW (f_10003_70 (px_tb C) x0 x1 s.1 s.2) (fun τ => k none τ) → (fun s : Int32 × px_M => px_W C k 70 [some (.inr (.inr (some x0))), some (.inr (.inr (some x1))), some (.inl s.1)] [] s.2) s := by
  intro s h0
  refine lpO_sound (P := (fun s : Int32 × px_M => px_W C k 70 [some (.inr (.inr (some x0))), some (.inr (.inr (some x1))), some (.inl s.1)] [] s.2)) (fun s hs => ?_) h0
  obtain ⟨x2, σ⟩ := s
  refine px_runG (h - 1) ck_10003 [] [(70, kp_10003_70 (fun y0 y1 y2 τ => y0 = x0 ∧ y1 = x1 ∧ (fun s : Int32 × px_M => px_W C k 70 [some (.inr (.inr (some x0))), some (.inr (.inr (some x1))), some (.inl s.1)] [] s.2) (y2, τ)))] 80 hC px_nosp (by omega) (px_cut1 (kq_10003_70 (fun y0 y1 y2 τ hq => by obtain ⟨rfl, rfl, hq⟩ := hq; exact hq)) px_nocut) (fun G Jf hG hJf => ?_)
  simp only [F_10003_70, oW_some, oW_none, oW_bind, oW_map, oW_ite, oW_bn, oW_gd, oW_oA, Sum.elim_inl, Sum.elim_inr, oW_and, true_and, and_true, false_and, and_false, true_or, or_true, false_or, or_false, and_self, or_self, not_false_eq_true, not_true_eq_false, false_implies, forall_const, true_implies, eq_self, ↓reduceIte] at hs
  simp only [↓hG, ↓hJf, ↓px_vc, ↓px_ex, ↓px_jp, ↓px_gi, ↓px_gl, ↓px_gr, ↓px_s1, ↓px_s2, ↓px_nl, ↓px_i1, ↓px_l1, ↓px_r1_o, ↓px_q1, ↓px_i2, ↓px_l2, ↓px_il, ↓px_d0, ↓px_d1, ↓px_d2, ↓px_pop, px_sz, ↓px_sp, ↓px_rd, ↓px_rf, ↓pn_xf, ↓px_pt, ↓px_rok, ↓px_rv_o, ↓px_fill, ↓px_sl, ↓px_sw, ↓pn_SW, lc_lt, lc_ge, lc_gt, lc_le, lc_eq, ↓reduceIte, Nat.reduceEqDiff, Nat.reduceLeDiff, Nat.reduceAdd, Nat.reduceSub, reduceCtorEq, List.length_cons, List.length_nil, Option.toList_some, Option.toList_none, List.cons_append, List.nil_append, true_and, and_true, false_and, and_false, true_or, or_true, false_or, or_false, and_self, or_self, not_false_eq_true, not_true_eq_false, false_implies, forall_const, true_implies, eq_self, ↓kI_s, ↓kJ_s, ↓kN_s, ↓kO_s, ↓kZ_s, ↓kE_s, oW_and, ↓bk_10003, ↓pn_i10003, oW_some, oW_none, oW_bind, oW_map, oW_ite, oW_bn, oW_gd, oW_oA, Sum.elim_inl, Sum.elim_inr, ↓kp_10003_70]
  exact hs
set_option maxHeartbeats 4000000 in
set_option maxRecDepth 100000 in
theorem rl_10003_44 {C : px_C} (hn : px_nd (px_tb C)) {h : Nat} (hh : 1 ≤ h) (hC : px_ok C pn_i10003 h) {k : Option px_V → px_M → Prop} {x0 : Nat} {x1 : Nat} : ∀ s : Int32 × px_M, oW (f_10003_44 (px_tb C) x0 x1 s.1 s.2) (fun τ => k none τ) → (fun s : Int32 × px_M => px_W C k 44 [some (.inr (.inr (some x0))), some (.inr (.inr (some x1))), some (.inl s.1)] [] s.2) s := by
  intro s h0
  refine lpO_sound (P := (fun s : Int32 × px_M => px_W C k 44 [some (.inr (.inr (some x0))), some (.inr (.inr (some x1))), some (.inl s.1)] [] s.2)) (fun s hs => ?_) h0
  obtain ⟨x2, σ⟩ := s
  refine px_runG (h - 1) ck_10003 [] [(44, kp_10003_44 (fun y0 y1 y2 τ => y0 = x0 ∧ y1 = x1 ∧ (fun s : Int32 × px_M => px_W C k 44 [some (.inr (.inr (some x0))), some (.inr (.inr (some x1))), some (.inl s.1)] [] s.2) (y2, τ))), (70, kp_10003_70 (fun y0 y1 y2 τ => oW (f_10003_70 (px_tb C) y0 y1 y2 τ) (fun τ => k none τ)))] 80 hC px_nosp (by omega) (px_cut1 (kq_10003_44 (fun y0 y1 y2 τ hq => by obtain ⟨rfl, rfl, hq⟩ := hq; exact hq)) (px_cut1 (kq_10003_70 (fun y0 y1 y2 τ hq => by exact rl_10003_70 hn (by omega) hC (y2, τ) hq)) px_nocut)) (fun G Jf hG hJf => ?_)
  simp only [F_10003_44, oW_some, oW_none, oW_bind, oW_map, oW_ite, oW_bn, oW_gd, oW_oA, Sum.elim_inl, Sum.elim_inr, oW_and, true_and, and_true, false_and, and_false, true_or, or_true, false_or, or_false, and_self, or_self, not_false_eq_true, not_true_eq_false, false_implies, forall_const, true_implies, eq_self, ↓reduceIte] at hs
  simp only [↓hG, ↓hJf, ↓px_vc, ↓px_ex, ↓px_jp, ↓px_gi, ↓px_gl, ↓px_gr, ↓px_s1, ↓px_s2, ↓px_nl, ↓px_i1, ↓px_l1, ↓px_r1_o, ↓px_q1, ↓px_i2, ↓px_l2, ↓px_il, ↓px_d0, ↓px_d1, ↓px_d2, ↓px_pop, px_sz, ↓px_sp, ↓px_rd, ↓px_rf, ↓pn_xf, ↓px_pt, ↓px_rok, ↓px_rv_o, ↓px_fill, ↓px_sl, ↓px_sw, ↓pn_SW, lc_lt, lc_ge, lc_gt, lc_le, lc_eq, ↓reduceIte, Nat.reduceEqDiff, Nat.reduceLeDiff, Nat.reduceAdd, Nat.reduceSub, reduceCtorEq, List.length_cons, List.length_nil, Option.toList_some, Option.toList_none, List.cons_append, List.nil_append, true_and, and_true, false_and, and_false, true_or, or_true, false_or, or_false, and_self, or_self, not_false_eq_true, not_true_eq_false, false_implies, forall_const, true_implies, eq_self, ↓kI_s, ↓kJ_s, ↓kN_s, ↓kO_s, ↓kZ_s, ↓kE_s, oW_and, ↓bk_10003, ↓pn_i10003, oW_some, oW_none, oW_bind, oW_map, oW_ite, oW_bn, oW_gd, oW_oA, Sum.elim_inl, Sum.elim_inr, ↓kp_10003_44, ↓kp_10003_70]
  exact hs
set_option maxHeartbeats 4000000 in
set_option maxRecDepth 100000 in
theorem rl_10003_18 {C : px_C} (hn : px_nd (px_tb C)) {h : Nat} (hh : 1 ≤ h) (hC : px_ok C pn_i10003 h) {k : Option px_V → px_M → Prop} {x0 : Nat} {x1 : Nat} : ∀ s : Int32 × px_M, oW (f_10003_18 (px_tb C) x0 x1 s.1 s.2) (fun τ => k none τ) → (fun s : Int32 × px_M => px_W C k 18 [some (.inr (.inr (some x0))), some (.inr (.inr (some x1))), some (.inl s.1)] [] s.2) s := by
  intro s h0
  refine lpO_sound (P := (fun s : Int32 × px_M => px_W C k 18 [some (.inr (.inr (some x0))), some (.inr (.inr (some x1))), some (.inl s.1)] [] s.2)) (fun s hs => ?_) h0
  obtain ⟨x2, σ⟩ := s
  refine px_runG (h - 1) ck_10003 [] [(18, kp_10003_18 (fun y0 y1 y2 τ => y0 = x0 ∧ y1 = x1 ∧ (fun s : Int32 × px_M => px_W C k 18 [some (.inr (.inr (some x0))), some (.inr (.inr (some x1))), some (.inl s.1)] [] s.2) (y2, τ))), (44, kp_10003_44 (fun y0 y1 y2 τ => oW (f_10003_44 (px_tb C) y0 y1 y2 τ) (fun τ => k none τ)))] 80 hC px_nosp (by omega) (px_cut1 (kq_10003_18 (fun y0 y1 y2 τ hq => by obtain ⟨rfl, rfl, hq⟩ := hq; exact hq)) (px_cut1 (kq_10003_44 (fun y0 y1 y2 τ hq => by exact rl_10003_44 hn (by omega) hC (y2, τ) hq)) px_nocut)) (fun G Jf hG hJf => ?_)
  simp only [F_10003_18, oW_some, oW_none, oW_bind, oW_map, oW_ite, oW_bn, oW_gd, oW_oA, Sum.elim_inl, Sum.elim_inr, oW_and, true_and, and_true, false_and, and_false, true_or, or_true, false_or, or_false, and_self, or_self, not_false_eq_true, not_true_eq_false, false_implies, forall_const, true_implies, eq_self, ↓reduceIte] at hs
  simp only [↓hG, ↓hJf, ↓px_vc, ↓px_ex, ↓px_jp, ↓px_gi, ↓px_gl, ↓px_gr, ↓px_s1, ↓px_s2, ↓px_nl, ↓px_i1, ↓px_l1, ↓px_r1_o, ↓px_q1, ↓px_i2, ↓px_l2, ↓px_il, ↓px_d0, ↓px_d1, ↓px_d2, ↓px_pop, px_sz, ↓px_sp, ↓px_rd, ↓px_rf, ↓pn_xf, ↓px_pt, ↓px_rok, ↓px_rv_o, ↓px_fill, ↓px_sl, ↓px_sw, ↓pn_SW, lc_lt, lc_ge, lc_gt, lc_le, lc_eq, ↓reduceIte, Nat.reduceEqDiff, Nat.reduceLeDiff, Nat.reduceAdd, Nat.reduceSub, reduceCtorEq, List.length_cons, List.length_nil, Option.toList_some, Option.toList_none, List.cons_append, List.nil_append, true_and, and_true, false_and, and_false, true_or, or_true, false_or, or_false, and_self, or_self, not_false_eq_true, not_true_eq_false, false_implies, forall_const, true_implies, eq_self, ↓kI_s, ↓kJ_s, ↓kN_s, ↓kO_s, ↓kZ_s, ↓kE_s, oW_and, ↓bk_10003, ↓pn_i10003, oW_some, oW_none, oW_bind, oW_map, oW_ite, oW_bn, oW_gd, oW_oA, Sum.elim_inl, Sum.elim_inr, ↓kp_10003_18, ↓kp_10003_44]
  exact hs
set_option maxHeartbeats 4000000 in
set_option maxRecDepth 100000 in
theorem mf_10003 {tab : px_T} (hn : px_nd tab) {h : Nat} (hh : 1 ≤ h) : px_Ok tab pn_i10003 h (Sg_10003 (f_10003 tab)) := by
  refine px_mth hn (by decide +kernel) (fun av σ k hS => ?_) (fun C hT hC av σ k hS => ?_)
  · obtain ⟨x0, av0, e0, h0⟩ := px_r1_spec hS
    obtain ⟨x1, av1, e1, h1⟩ := px_r1_spec h0
    obtain ⟨ez, hz⟩ := h1
    subst ez
    subst e1
    subst e0
    exact Nat.le_of_ble_eq_true rfl
  · obtain ⟨x0, av0, e0, h0⟩ := px_r1_spec hS
    obtain ⟨x1, av1, e1, h1⟩ := px_r1_spec h0
    obtain ⟨ez, hz⟩ := h1
    subst ez
    subst e1
    subst e0
    subst hT
    refine px_runG (h - 1) ck_10003 [] [(18, kp_10003_18 (fun y0 y1 y2 τ => oW (f_10003_18 (px_tb C) y0 y1 y2 τ) (fun τ => k none τ)))] 80 hC px_nosp (by omega) (px_cut1 (kq_10003_18 (fun y0 y1 y2 τ hq => by exact rl_10003_18 hn (by omega) hC (y2, τ) hq)) px_nocut) (fun G Jf hG hJf => ?_)
    simp only [f_10003, oW_some, oW_none, oW_bind, oW_map, oW_ite, oW_bn, oW_gd, oW_oA, Sum.elim_inl, Sum.elim_inr, oW_and, true_and, and_true, false_and, and_false, true_or, or_true, false_or, or_false, and_self, or_self, not_false_eq_true, not_true_eq_false, false_implies, forall_const, true_implies, eq_self, ↓reduceIte] at hz
    simp only [↓hG, ↓hJf, ↓px_vc, ↓px_ex, ↓px_jp, ↓px_gi, ↓px_gl, ↓px_gr, ↓px_s1, ↓px_s2, ↓px_nl, ↓px_i1, ↓px_l1, ↓px_r1_o, ↓px_q1, ↓px_i2, ↓px_l2, ↓px_il, ↓px_d0, ↓px_d1, ↓px_d2, ↓px_pop, px_sz, ↓px_sp, ↓px_rd, ↓px_rf, ↓pn_xf, ↓px_pt, ↓px_rok, ↓px_rv_o, ↓px_fill, ↓px_sl, ↓px_sw, ↓pn_SW, lc_lt, lc_ge, lc_gt, lc_le, lc_eq, ↓reduceIte, Nat.reduceEqDiff, Nat.reduceLeDiff, Nat.reduceAdd, Nat.reduceSub, reduceCtorEq, List.length_cons, List.length_nil, Option.toList_some, Option.toList_none, List.cons_append, List.nil_append, true_and, and_true, false_and, and_false, true_or, or_true, false_or, or_false, and_self, or_self, not_false_eq_true, not_true_eq_false, false_implies, forall_const, true_implies, eq_self, ↓kI_s, ↓kJ_s, ↓kN_s, ↓kO_s, ↓kZ_s, ↓kE_s, oW_and, ↓bk_10003, ↓pn_i10003, oW_some, oW_none, oW_bind, oW_map, oW_ite, oW_bn, oW_gd, oW_oA, Sum.elim_inl, Sum.elim_inr, ↓kp_10003_18]
    exact hz
def Sg_11007 (g : px_M → Nat → Nat → Option (px_M)) : px_S := fun av σ k => px_r1 av (fun x0 av => px_r1 av (fun x1 av => av = [] ∧ oW (g σ x0 x1) (fun τ => k none τ)))
/-- NoThree$Town.become(LNoThree$Town;)V -/
noncomputable def F_11007_10 (tab : px_T) (x0 : Nat) (x1 : Nat) (x2 : Int32) (σ : px_M) : Option ((Int32 × px_M) ⊕ (px_M)) := if (nI 11) ≤ x2 then (some (.inr (σ))) else (gd (px_obj (px_lay tab x0) 11) (gd (px_obj (px_lay tab x1) 11) ((((σ).2.2 x1 1)).bind fun n1 => oA (px_lay tab n1) fun t2 l3 => gd (t2 = 0 ∨ t2 = 11) (gd (vp_in x2 l3) ((((σ).2.2 x0 1)).bind fun n4 => oA (px_lay tab n4) fun t5 l6 => gd (t5 = 0) (gd (vp_in x2 l6) (some (.inl (((x2 + (nI 1)), (px_wi σ n4 (x2).toNatClampNeg (px_av t2 σ n1 (x2).toNatClampNeg))))))))))))
noncomputable def f_11007_10 (tab : px_T) (x0 : Nat) (x1 : Nat) (x2 : Int32) (σ : px_M) : Option (px_M) := lpO (fun s : Int32 × px_M => F_11007_10 tab x0 x1 s.1 s.2) (x2, σ)
theorem f_11007_10_eq (tab : px_T) (x0 : Nat) (x1 : Nat) (x2 : Int32) (σ : px_M) : f_11007_10 tab x0 x1 x2 σ = (F_11007_10 tab x0 x1 x2 σ).bind (Sum.elim (fun s => f_11007_10 tab x0 x1 s.1 s.2) some) := lpO_eq _ _
noncomputable def f_11007 (tab : px_T) (σ : px_M) (x0 : Nat) (x1 : Nat) : Option (px_M) := gd (px_obj (px_lay tab x1) 11) (gd (px_obj (px_lay tab x0) 11) (f_11007_10 tab x0 x1 ((nI 0)) ((px_wi σ x0 0 ((σ).1 x1 0)))))
def kp_11007_10 (Q : Nat → Nat → Int32 → px_M → Prop) : px_P := fun ls st τ => st = [] ∧ kN ls (fun x0 ls => kN ls (fun x1 ls => kI ls (fun x2 ls => kE ls (Q x0 x1 x2 τ))))
theorem kq_11007_10 {C : px_C} {k : Option px_V → px_M → Prop} {Q : Nat → Nat → Int32 → px_M → Prop} (H : ∀ (x0 : Nat) (x1 : Nat) (x2 : Int32) (τ : px_M), Q x0 x1 x2 τ → px_W C k 10 [some (.inr (.inr (some x0))), some (.inr (.inr (some x1))), some (.inl x2)] [] τ) : ∀ ls st τ, kp_11007_10 Q ls st τ → px_W C k 10 ls st τ := by
  intro ls st τ hz
  obtain ⟨ez, h0⟩ := hz
  obtain ⟨x0, l0, e0, h1⟩ := kN_sp h0
  obtain ⟨x1, l1, e1, h2⟩ := kN_sp h1
  obtain ⟨x2, l2, e2, h3⟩ := kI_sp h2
  obtain ⟨ey, hy⟩ := kE_sp h3
  subst ez
  subst ey
  subst e2
  subst e1
  subst e0
  exact H x0 x1 x2 τ hy
set_option maxHeartbeats 4000000 in
set_option maxRecDepth 100000 in
theorem rl_11007_10 {C : px_C} (hn : px_nd (px_tb C)) {h : Nat} (hh : 1 ≤ h) (hC : px_ok C pn_i11007 h) {k : Option px_V → px_M → Prop} {x0 : Nat} {x1 : Nat} : ∀ s : Int32 × px_M, oW (f_11007_10 (px_tb C) x0 x1 s.1 s.2) (fun τ => k none τ) → (fun s : Int32 × px_M => px_W C k 10 [some (.inr (.inr (some x0))), some (.inr (.inr (some x1))), some (.inl s.1)] [] s.2) s := by
  intro s h0
  refine lpO_sound (P := (fun s : Int32 × px_M => px_W C k 10 [some (.inr (.inr (some x0))), some (.inr (.inr (some x1))), some (.inl s.1)] [] s.2)) (fun s hs => ?_) h0
  obtain ⟨x2, σ⟩ := s
  refine px_runG (h - 1) ck_11007 [] [(10, kp_11007_10 (fun y0 y1 y2 τ => y0 = x0 ∧ y1 = x1 ∧ (fun s : Int32 × px_M => px_W C k 10 [some (.inr (.inr (some x0))), some (.inr (.inr (some x1))), some (.inl s.1)] [] s.2) (y2, τ)))] 80 hC px_nosp (by omega) (px_cut1 (kq_11007_10 (fun y0 y1 y2 τ hq => by obtain ⟨rfl, rfl, hq⟩ := hq; exact hq)) px_nocut) (fun G Jf hG hJf => ?_)
  simp only [F_11007_10, oW_some, oW_none, oW_bind, oW_map, oW_ite, oW_bn, oW_gd, oW_oA, Sum.elim_inl, Sum.elim_inr, oW_and, true_and, and_true, false_and, and_false, true_or, or_true, false_or, or_false, and_self, or_self, not_false_eq_true, not_true_eq_false, false_implies, forall_const, true_implies, eq_self, ↓reduceIte] at hs
  simp only [↓hG, ↓hJf, ↓px_vc, ↓px_ex, ↓px_jp, ↓px_gi, ↓px_gl, ↓px_gr, ↓px_s1, ↓px_s2, ↓px_nl, ↓px_i1, ↓px_l1, ↓px_r1_o, ↓px_q1, ↓px_i2, ↓px_l2, ↓px_il, ↓px_d0, ↓px_d1, ↓px_d2, ↓px_pop, px_sz, ↓px_sp, ↓px_rd, ↓px_rf, ↓pn_xf, ↓px_pt, ↓px_rok, ↓px_rv_o, ↓px_fill, ↓px_sl, ↓px_sw, ↓pn_SW, lc_lt, lc_ge, lc_gt, lc_le, lc_eq, ↓reduceIte, Nat.reduceEqDiff, Nat.reduceLeDiff, Nat.reduceAdd, Nat.reduceSub, reduceCtorEq, List.length_cons, List.length_nil, Option.toList_some, Option.toList_none, List.cons_append, List.nil_append, true_and, and_true, false_and, and_false, true_or, or_true, false_or, or_false, and_self, or_self, not_false_eq_true, not_true_eq_false, false_implies, forall_const, true_implies, eq_self, ↓kI_s, ↓kJ_s, ↓kN_s, ↓kO_s, ↓kZ_s, ↓kE_s, oW_and, ↓bk_11007, ↓pn_i11007, oW_some, oW_none, oW_bind, oW_map, oW_ite, oW_bn, oW_gd, oW_oA, Sum.elim_inl, Sum.elim_inr, ↓kp_11007_10]
  exact hs
set_option maxHeartbeats 4000000 in
set_option maxRecDepth 100000 in
theorem mf_11007 {tab : px_T} (hn : px_nd tab) {h : Nat} (hh : 1 ≤ h) : px_Ok tab pn_i11007 h (Sg_11007 (f_11007 tab)) := by
  refine px_mth hn (by decide +kernel) (fun av σ k hS => ?_) (fun C hT hC av σ k hS => ?_)
  · obtain ⟨x0, av0, e0, h0⟩ := px_r1_spec hS
    obtain ⟨x1, av1, e1, h1⟩ := px_r1_spec h0
    obtain ⟨ez, hz⟩ := h1
    subst ez
    subst e1
    subst e0
    exact Nat.le_of_ble_eq_true rfl
  · obtain ⟨x0, av0, e0, h0⟩ := px_r1_spec hS
    obtain ⟨x1, av1, e1, h1⟩ := px_r1_spec h0
    obtain ⟨ez, hz⟩ := h1
    subst ez
    subst e1
    subst e0
    subst hT
    refine px_runG (h - 1) ck_11007 [] [(10, kp_11007_10 (fun y0 y1 y2 τ => oW (f_11007_10 (px_tb C) y0 y1 y2 τ) (fun τ => k none τ)))] 80 hC px_nosp (by omega) (px_cut1 (kq_11007_10 (fun y0 y1 y2 τ hq => by exact rl_11007_10 hn (by omega) hC (y2, τ) hq)) px_nocut) (fun G Jf hG hJf => ?_)
    simp only [f_11007, oW_some, oW_none, oW_bind, oW_map, oW_ite, oW_bn, oW_gd, oW_oA, Sum.elim_inl, Sum.elim_inr, oW_and, true_and, and_true, false_and, and_false, true_or, or_true, false_or, or_false, and_self, or_self, not_false_eq_true, not_true_eq_false, false_implies, forall_const, true_implies, eq_self, ↓reduceIte] at hz
    simp only [↓hG, ↓hJf, ↓px_vc, ↓px_ex, ↓px_jp, ↓px_gi, ↓px_gl, ↓px_gr, ↓px_s1, ↓px_s2, ↓px_nl, ↓px_i1, ↓px_l1, ↓px_r1_o, ↓px_q1, ↓px_i2, ↓px_l2, ↓px_il, ↓px_d0, ↓px_d1, ↓px_d2, ↓px_pop, px_sz, ↓px_sp, ↓px_rd, ↓px_rf, ↓pn_xf, ↓px_pt, ↓px_rok, ↓px_rv_o, ↓px_fill, ↓px_sl, ↓px_sw, ↓pn_SW, lc_lt, lc_ge, lc_gt, lc_le, lc_eq, ↓reduceIte, Nat.reduceEqDiff, Nat.reduceLeDiff, Nat.reduceAdd, Nat.reduceSub, reduceCtorEq, List.length_cons, List.length_nil, Option.toList_some, Option.toList_none, List.cons_append, List.nil_append, true_and, and_true, false_and, and_false, true_or, or_true, false_or, or_false, and_self, or_self, not_false_eq_true, not_true_eq_false, false_implies, forall_const, true_implies, eq_self, ↓kI_s, ↓kJ_s, ↓kN_s, ↓kO_s, ↓kZ_s, ↓kE_s, oW_and, ↓bk_11007, ↓pn_i11007, oW_some, oW_none, oW_bind, oW_map, oW_ite, oW_bn, oW_gd, oW_oA, Sum.elim_inl, Sum.elim_inr, ↓kp_11007_10]
    exact hz
def Sg_1002 (g : px_M → Nat → Nat → Option (px_M)) : px_S := fun av σ k => px_r1 av (fun x0 av => px_r1 av (fun x1 av => av = [] ∧ oW (g σ x0 x1) (fun τ => k none τ)))
/-- NoThree$Annals.become(LNoThree$Annals;)V -/
noncomputable def F_1002_48 (tab : px_T) (x0 : Nat) (x1 : Nat) (x2 : Int32) (σ : px_M) : Option ((Int32 × px_M) ⊕ (px_M)) := gd (px_obj (px_lay tab x0) 1) ((((σ).2.2 x0 5)).bind fun n1 => oA (px_lay tab n1) fun t2 l3 => gd (t2 < 12) (if (nI l3) ≤ x2 then (some (.inr (σ))) else (gd (px_obj (px_lay tab x0) 1) (gd (px_obj (px_lay tab x1) 1) ((((σ).2.2 x1 5)).bind fun n4 => oA (px_lay tab n4) fun t5 l6 => gd (t5 = 0 ∨ t5 = 11) (gd (vp_in x2 l6) ((((σ).2.2 x0 5)).bind fun n7 => oA (px_lay tab n7) fun t8 l9 => gd (t8 = 0) (gd (vp_in x2 l9) (some (.inl (((x2 + (nI 1)), (px_wi σ n7 (x2).toNatClampNeg (px_av t5 σ n4 (x2).toNatClampNeg))))))))))))))
noncomputable def f_1002_48 (tab : px_T) (x0 : Nat) (x1 : Nat) (x2 : Int32) (σ : px_M) : Option (px_M) := lpO (fun s : Int32 × px_M => F_1002_48 tab x0 x1 s.1 s.2) (x2, σ)
theorem f_1002_48_eq (tab : px_T) (x0 : Nat) (x1 : Nat) (x2 : Int32) (σ : px_M) : f_1002_48 tab x0 x1 x2 σ = (F_1002_48 tab x0 x1 x2 σ).bind (Sum.elim (fun s => f_1002_48 tab x0 x1 s.1 s.2) some) := lpO_eq _ _
noncomputable def f_1002_30 (tab : px_T) (σ : px_M) (x0 : Nat) (x1 : Nat) : Option (px_M) := gd (px_obj (px_lay tab x1) 1) (gd (px_obj (px_lay tab x0) 1) (gd (px_obj (px_lay tab x1) 1) (gd (px_obj (px_lay tab x0) 1) (f_1002_48 tab x0 x1 ((nI 0)) ((px_wi (px_wi σ x0 3 ((σ).1 x1 3)) x0 4 (((px_wi σ x0 3 ((σ).1 x1 3))).1 x1 4)))))))
noncomputable def f_1002 (tab : px_T) (σ : px_M) (x0 : Nat) (x1 : Nat) : Option (px_M) := gd (px_obj (px_lay tab x0) 1) (gd (px_obj (px_lay tab x1) 1) ((((σ).2.2 x0 0)).bind fun n1 => gd (px_obj (px_lay tab n1) 11) ((((σ).2.2 x1 0)).bind fun n2 => (f_11007 tab σ n1 n2).bind fun q3 => gd (px_obj (px_lay tab x0) 1) (gd (px_obj (px_lay tab x1) 1) ((((q3).2.2 x0 1)).bind fun n4 => gd (px_obj (px_lay tab n4) 10) ((((q3).2.2 x1 1)).bind fun n5 => (f_10003 tab q3 n4 n5).bind fun q6 => gd (px_obj (px_lay tab x1) 1) (gd (px_obj (px_lay tab x0) 1) (f_1002_30 tab ((px_wi q6 x0 2 ((q6).1 x1 2))) x0 x1))))))))
def kp_1002_48 (Q : Nat → Nat → Int32 → px_M → Prop) : px_P := fun ls st τ => st = [] ∧ kN ls (fun x0 ls => kN ls (fun x1 ls => kI ls (fun x2 ls => kE ls (Q x0 x1 x2 τ))))
theorem kq_1002_48 {C : px_C} {k : Option px_V → px_M → Prop} {Q : Nat → Nat → Int32 → px_M → Prop} (H : ∀ (x0 : Nat) (x1 : Nat) (x2 : Int32) (τ : px_M), Q x0 x1 x2 τ → px_W C k 48 [some (.inr (.inr (some x0))), some (.inr (.inr (some x1))), some (.inl x2)] [] τ) : ∀ ls st τ, kp_1002_48 Q ls st τ → px_W C k 48 ls st τ := by
  intro ls st τ hz
  obtain ⟨ez, h0⟩ := hz
  obtain ⟨x0, l0, e0, h1⟩ := kN_sp h0
  obtain ⟨x1, l1, e1, h2⟩ := kN_sp h1
  obtain ⟨x2, l2, e2, h3⟩ := kI_sp h2
  obtain ⟨ey, hy⟩ := kE_sp h3
  subst ez
  subst ey
  subst e2
  subst e1
  subst e0
  exact H x0 x1 x2 τ hy
def kp_1002_30 (Q : Nat → Nat → px_M → Prop) : px_P := fun ls st τ => st = [] ∧ kN ls (fun x0 ls => kN ls (fun x1 ls => kZ ls (fun ls => kE ls (Q x0 x1 τ))))
theorem kq_1002_30 {C : px_C} {k : Option px_V → px_M → Prop} {Q : Nat → Nat → px_M → Prop} (H : ∀ (x0 : Nat) (x1 : Nat) (τ : px_M), Q x0 x1 τ → ∀ (z2 : Option px_V), px_W C k 30 [some (.inr (.inr (some x0))), some (.inr (.inr (some x1))), z2] [] τ) : ∀ ls st τ, kp_1002_30 Q ls st τ → px_W C k 30 ls st τ := by
  intro ls st τ hz
  obtain ⟨ez, h0⟩ := hz
  obtain ⟨x0, l0, e0, h1⟩ := kN_sp h0
  obtain ⟨x1, l1, e1, h2⟩ := kN_sp h1
  obtain ⟨z2, l2, e2, h3⟩ := kZ_sp h2
  obtain ⟨ey, hy⟩ := kE_sp h3
  subst ez
  subst ey
  subst e2
  subst e1
  subst e0
  exact H x0 x1 τ hy z2
set_option maxHeartbeats 4000000 in
set_option maxRecDepth 100000 in
theorem rl_1002_48 {C : px_C} (hn : px_nd (px_tb C)) {h : Nat} (hh : 2 ≤ h) (hC : px_ok C pn_i1002 h) {k : Option px_V → px_M → Prop} {x0 : Nat} {x1 : Nat} : ∀ s : Int32 × px_M, oW (f_1002_48 (px_tb C) x0 x1 s.1 s.2) (fun τ => k none τ) → (fun s : Int32 × px_M => px_W C k 48 [some (.inr (.inr (some x0))), some (.inr (.inr (some x1))), some (.inl s.1)] [] s.2) s := by
  intro s h0
  refine lpO_sound (P := (fun s : Int32 × px_M => px_W C k 48 [some (.inr (.inr (some x0))), some (.inr (.inr (some x1))), some (.inl s.1)] [] s.2)) (fun s hs => ?_) h0
  obtain ⟨x2, σ⟩ := s
  refine px_runG (h - 1) ck_1002 [] [(48, kp_1002_48 (fun y0 y1 y2 τ => y0 = x0 ∧ y1 = x1 ∧ (fun s : Int32 × px_M => px_W C k 48 [some (.inr (.inr (some x0))), some (.inr (.inr (some x1))), some (.inl s.1)] [] s.2) (y2, τ)))] 80 hC px_nosp (by omega) (px_cut1 (kq_1002_48 (fun y0 y1 y2 τ hq => by obtain ⟨rfl, rfl, hq⟩ := hq; exact hq)) px_nocut) (fun G Jf hG hJf => ?_)
  simp only [F_1002_48, oW_some, oW_none, oW_bind, oW_map, oW_ite, oW_bn, oW_gd, oW_oA, Sum.elim_inl, Sum.elim_inr, oW_and, true_and, and_true, false_and, and_false, true_or, or_true, false_or, or_false, and_self, or_self, not_false_eq_true, not_true_eq_false, false_implies, forall_const, true_implies, eq_self, ↓reduceIte] at hs
  simp only [↓hG, ↓hJf, ↓px_vc, ↓px_ex, ↓px_jp, ↓px_gi, ↓px_gl, ↓px_gr, ↓px_s1, ↓px_s2, ↓px_nl, ↓px_i1, ↓px_l1, ↓px_r1_o, ↓px_q1, ↓px_i2, ↓px_l2, ↓px_il, ↓px_d0, ↓px_d1, ↓px_d2, ↓px_pop, px_sz, ↓px_sp, ↓px_rd, ↓px_rf, ↓pn_xf, ↓px_pt, ↓px_rok, ↓px_rv_o, ↓px_fill, ↓px_sl, ↓px_sw, ↓pn_SW, lc_lt, lc_ge, lc_gt, lc_le, lc_eq, ↓reduceIte, Nat.reduceEqDiff, Nat.reduceLeDiff, Nat.reduceAdd, Nat.reduceSub, reduceCtorEq, List.length_cons, List.length_nil, Option.toList_some, Option.toList_none, List.cons_append, List.nil_append, true_and, and_true, false_and, and_false, true_or, or_true, false_or, or_false, and_self, or_self, not_false_eq_true, not_true_eq_false, false_implies, forall_const, true_implies, eq_self, ↓kI_s, ↓kJ_s, ↓kN_s, ↓kO_s, ↓kZ_s, ↓kE_s, oW_and, ↓bk_1002, ↓pn_i1002, oW_some, oW_none, oW_bind, oW_map, oW_ite, oW_bn, oW_gd, oW_oA, Sum.elim_inl, Sum.elim_inr, ↓kp_1002_48]
  exact hs
set_option maxHeartbeats 4000000 in
set_option maxRecDepth 100000 in
theorem rl_1002_30 {C : px_C} (hn : px_nd (px_tb C)) {h : Nat} (hh : 2 ≤ h) (hC : px_ok C pn_i1002 h) {k : Option px_V → px_M → Prop} {x0 : Nat} {x1 : Nat} {σ : px_M} (hs : oW (f_1002_30 (px_tb C) σ x0 x1) (fun τ => k none τ)) : ∀ (z2 : Option px_V), px_W C k 30 [some (.inr (.inr (some x0))), some (.inr (.inr (some x1))), z2] [] σ := by
  intro z2
  refine px_runG (h - 1) ck_1002 [] [(48, kp_1002_48 (fun y0 y1 y2 τ => oW (f_1002_48 (px_tb C) y0 y1 y2 τ) (fun τ => k none τ)))] 80 hC px_nosp (by omega) (px_cut1 (kq_1002_48 (fun y0 y1 y2 τ hq => by exact rl_1002_48 hn (by omega) hC (y2, τ) hq)) px_nocut) (fun G Jf hG hJf => ?_)
  simp only [f_1002_30, oW_some, oW_none, oW_bind, oW_map, oW_ite, oW_bn, oW_gd, oW_oA, Sum.elim_inl, Sum.elim_inr, oW_and, true_and, and_true, false_and, and_false, true_or, or_true, false_or, or_false, and_self, or_self, not_false_eq_true, not_true_eq_false, false_implies, forall_const, true_implies, eq_self, ↓reduceIte] at hs
  simp only [↓hG, ↓hJf, ↓px_vc, ↓px_ex, ↓px_jp, ↓px_gi, ↓px_gl, ↓px_gr, ↓px_s1, ↓px_s2, ↓px_nl, ↓px_i1, ↓px_l1, ↓px_r1_o, ↓px_q1, ↓px_i2, ↓px_l2, ↓px_il, ↓px_d0, ↓px_d1, ↓px_d2, ↓px_pop, px_sz, ↓px_sp, ↓px_rd, ↓px_rf, ↓pn_xf, ↓px_pt, ↓px_rok, ↓px_rv_o, ↓px_fill, ↓px_sl, ↓px_sw, ↓pn_SW, lc_lt, lc_ge, lc_gt, lc_le, lc_eq, ↓reduceIte, Nat.reduceEqDiff, Nat.reduceLeDiff, Nat.reduceAdd, Nat.reduceSub, reduceCtorEq, List.length_cons, List.length_nil, Option.toList_some, Option.toList_none, List.cons_append, List.nil_append, true_and, and_true, false_and, and_false, true_or, or_true, false_or, or_false, and_self, or_self, not_false_eq_true, not_true_eq_false, false_implies, forall_const, true_implies, eq_self, ↓kI_s, ↓kJ_s, ↓kN_s, ↓kO_s, ↓kZ_s, ↓kE_s, oW_and, ↓bk_1002, ↓pn_i1002, oW_some, oW_none, oW_bind, oW_map, oW_ite, oW_bn, oW_gd, oW_oA, Sum.elim_inl, Sum.elim_inr, ↓kp_1002_48]
  exact hs
set_option maxHeartbeats 4000000 in
set_option maxRecDepth 100000 in
theorem mf_1002 {tab : px_T} (hn : px_nd tab) {h : Nat} (hh : 2 ≤ h) : px_Ok tab pn_i1002 h (Sg_1002 (f_1002 tab)) := by
  refine px_mth hn (by decide +kernel) (fun av σ k hS => ?_) (fun C hT hC av σ k hS => ?_)
  · obtain ⟨x0, av0, e0, h0⟩ := px_r1_spec hS
    obtain ⟨x1, av1, e1, h1⟩ := px_r1_spec h0
    obtain ⟨ez, hz⟩ := h1
    subst ez
    subst e1
    subst e0
    exact Nat.le_of_ble_eq_true rfl
  · obtain ⟨x0, av0, e0, h0⟩ := px_r1_spec hS
    obtain ⟨x1, av1, e1, h1⟩ := px_r1_spec h0
    obtain ⟨ez, hz⟩ := h1
    subst ez
    subst e1
    subst e0
    subst hT
    refine px_runG (h - 1) ck_1002 [(10003, Sg_10003 (f_10003 (px_tb C))), (11007, Sg_11007 (f_11007 (px_tb C)))] [(30, kp_1002_30 (fun y0 y1 τ => oW (f_1002_30 (px_tb C) τ y0 y1) (fun τ => k none τ)))] 80 hC (px_sp1 (mf_10003 hn (by omega)) (px_sp1 (mf_11007 hn (by omega)) px_nosp)) (by omega) (px_cut1 (kq_1002_30 (fun y0 y1 τ hq => by exact rl_1002_30 hn (by omega) hC  hq)) px_nocut) (fun G Jf hG hJf => ?_)
    simp only [f_1002, oW_some, oW_none, oW_bind, oW_map, oW_ite, oW_bn, oW_gd, oW_oA, Sum.elim_inl, Sum.elim_inr, oW_and, true_and, and_true, false_and, and_false, true_or, or_true, false_or, or_false, and_self, or_self, not_false_eq_true, not_true_eq_false, false_implies, forall_const, true_implies, eq_self, ↓reduceIte] at hz
    simp only [↓hG, ↓hJf, ↓px_vc, ↓px_ex, ↓px_jp, ↓px_gi, ↓px_gl, ↓px_gr, ↓px_s1, ↓px_s2, ↓px_nl, ↓px_i1, ↓px_l1, ↓px_r1_o, ↓px_q1, ↓px_i2, ↓px_l2, ↓px_il, ↓px_d0, ↓px_d1, ↓px_d2, ↓px_pop, px_sz, ↓px_sp, ↓px_rd, ↓px_rf, ↓pn_xf, ↓px_pt, ↓px_rok, ↓px_rv_o, ↓px_fill, ↓px_sl, ↓px_sw, ↓pn_SW, lc_lt, lc_ge, lc_gt, lc_le, lc_eq, ↓reduceIte, Nat.reduceEqDiff, Nat.reduceLeDiff, Nat.reduceAdd, Nat.reduceSub, reduceCtorEq, List.length_cons, List.length_nil, Option.toList_some, Option.toList_none, List.cons_append, List.nil_append, true_and, and_true, false_and, and_false, true_or, or_true, false_or, or_false, and_self, or_self, not_false_eq_true, not_true_eq_false, false_implies, forall_const, true_implies, eq_self, ↓kI_s, ↓kJ_s, ↓kN_s, ↓kO_s, ↓kZ_s, ↓kE_s, oW_and, ↓bk_1002, ↓pn_i1002, oW_some, oW_none, oW_bind, oW_map, oW_ite, oW_bn, oW_gd, oW_oA, Sum.elim_inl, Sum.elim_inr, ↓Sg_10003, ↓Sg_11007, ↓kp_1002_30]
    exact hz
def Sg_22000 (g : px_M → Nat → Int32 → Option (px_M)) : px_S := fun av σ k => px_r1 av (fun x0 av => px_i1 av (fun x1 av => av = [] ∧ oW (g σ x0 x1) (fun τ => k none τ)))
/-- java/util/Arrays.fill([II)V -/
noncomputable def F_22000_5 (tab : px_T) (x0 : Nat) (x1 : Int32) (x3 : Int32) (x2 : Int32) (σ : px_M) : Option ((Int32 × px_M) ⊕ (px_M)) := if x3 ≤ x2 then (some (.inr (σ))) else (oA (px_lay tab x0) fun t1 l2 => gd (t1 = 0) (gd (vp_in x2 l2) (some (.inl (((x2 + (nI 1)), (px_wi σ x0 (x2).toNatClampNeg x1)))))))
noncomputable def f_22000_5 (tab : px_T) (x0 : Nat) (x1 : Int32) (x3 : Int32) (x2 : Int32) (σ : px_M) : Option (px_M) := lpO (fun s : Int32 × px_M => F_22000_5 tab x0 x1 x3 s.1 s.2) (x2, σ)
theorem f_22000_5_eq (tab : px_T) (x0 : Nat) (x1 : Int32) (x3 : Int32) (x2 : Int32) (σ : px_M) : f_22000_5 tab x0 x1 x3 x2 σ = (F_22000_5 tab x0 x1 x3 x2 σ).bind (Sum.elim (fun s => f_22000_5 tab x0 x1 x3 s.1 s.2) some) := lpO_eq _ _
noncomputable def f_22000 (tab : px_T) (σ : px_M) (x0 : Nat) (x1 : Int32) : Option (px_M) := oA (px_lay tab x0) fun t1 l2 => gd (t1 < 12) (f_22000_5 tab x0 x1 ((nI l2)) ((nI 0)) σ)
def kp_22000_5 (Q : Nat → Int32 → Int32 → Int32 → px_M → Prop) : px_P := fun ls st τ => st = [] ∧ kN ls (fun x0 ls => kI ls (fun x1 ls => kI ls (fun x2 ls => kI ls (fun x3 ls => kE ls (Q x0 x1 x2 x3 τ)))))
theorem kq_22000_5 {C : px_C} {k : Option px_V → px_M → Prop} {Q : Nat → Int32 → Int32 → Int32 → px_M → Prop} (H : ∀ (x0 : Nat) (x1 : Int32) (x2 : Int32) (x3 : Int32) (τ : px_M), Q x0 x1 x2 x3 τ → px_W C k 5 [some (.inr (.inr (some x0))), some (.inl x1), some (.inl x2), some (.inl x3)] [] τ) : ∀ ls st τ, kp_22000_5 Q ls st τ → px_W C k 5 ls st τ := by
  intro ls st τ hz
  obtain ⟨ez, h0⟩ := hz
  obtain ⟨x0, l0, e0, h1⟩ := kN_sp h0
  obtain ⟨x1, l1, e1, h2⟩ := kI_sp h1
  obtain ⟨x2, l2, e2, h3⟩ := kI_sp h2
  obtain ⟨x3, l3, e3, h4⟩ := kI_sp h3
  obtain ⟨ey, hy⟩ := kE_sp h4
  subst ez
  subst ey
  subst e3
  subst e2
  subst e1
  subst e0
  exact H x0 x1 x2 x3 τ hy
set_option maxHeartbeats 4000000 in
set_option maxRecDepth 100000 in
theorem rl_22000_5 {C : px_C} (hn : px_nd (px_tb C)) {h : Nat} (hh : 1 ≤ h) (hC : px_ok C pn_i22000 h) {k : Option px_V → px_M → Prop} {x0 : Nat} {x1 : Int32} {x3 : Int32} : ∀ s : Int32 × px_M, oW (f_22000_5 (px_tb C) x0 x1 x3 s.1 s.2) (fun τ => k none τ) → (fun s : Int32 × px_M => px_W C k 5 [some (.inr (.inr (some x0))), some (.inl x1), some (.inl s.1), some (.inl x3)] [] s.2) s := by
  intro s h0
  refine lpO_sound (P := (fun s : Int32 × px_M => px_W C k 5 [some (.inr (.inr (some x0))), some (.inl x1), some (.inl s.1), some (.inl x3)] [] s.2)) (fun s hs => ?_) h0
  obtain ⟨x2, σ⟩ := s
  refine px_runG (h - 1) ck_22000 [] [(5, kp_22000_5 (fun y0 y1 y2 y3 τ => y0 = x0 ∧ y1 = x1 ∧ y3 = x3 ∧ (fun s : Int32 × px_M => px_W C k 5 [some (.inr (.inr (some x0))), some (.inl x1), some (.inl s.1), some (.inl x3)] [] s.2) (y2, τ)))] 80 hC px_nosp (by omega) (px_cut1 (kq_22000_5 (fun y0 y1 y2 y3 τ hq => by obtain ⟨rfl, rfl, rfl, hq⟩ := hq; exact hq)) px_nocut) (fun G Jf hG hJf => ?_)
  simp only [F_22000_5, oW_some, oW_none, oW_bind, oW_map, oW_ite, oW_bn, oW_gd, oW_oA, Sum.elim_inl, Sum.elim_inr, oW_and, true_and, and_true, false_and, and_false, true_or, or_true, false_or, or_false, and_self, or_self, not_false_eq_true, not_true_eq_false, false_implies, forall_const, true_implies, eq_self, ↓reduceIte] at hs
  simp only [↓hG, ↓hJf, ↓px_vc, ↓px_ex, ↓px_jp, ↓px_gi, ↓px_gl, ↓px_gr, ↓px_s1, ↓px_s2, ↓px_nl, ↓px_i1, ↓px_l1, ↓px_r1_o, ↓px_q1, ↓px_i2, ↓px_l2, ↓px_il, ↓px_d0, ↓px_d1, ↓px_d2, ↓px_pop, px_sz, ↓px_sp, ↓px_rd, ↓px_rf, ↓pn_xf, ↓px_pt, ↓px_rok, ↓px_rv_o, ↓px_fill, ↓px_sl, ↓px_sw, ↓pn_SW, lc_lt, lc_ge, lc_gt, lc_le, lc_eq, ↓reduceIte, Nat.reduceEqDiff, Nat.reduceLeDiff, Nat.reduceAdd, Nat.reduceSub, reduceCtorEq, List.length_cons, List.length_nil, Option.toList_some, Option.toList_none, List.cons_append, List.nil_append, true_and, and_true, false_and, and_false, true_or, or_true, false_or, or_false, and_self, or_self, not_false_eq_true, not_true_eq_false, false_implies, forall_const, true_implies, eq_self, ↓kI_s, ↓kJ_s, ↓kN_s, ↓kO_s, ↓kZ_s, ↓kE_s, oW_and, ↓bk_22000, ↓pn_i22000, oW_some, oW_none, oW_bind, oW_map, oW_ite, oW_bn, oW_gd, oW_oA, Sum.elim_inl, Sum.elim_inr, ↓kp_22000_5]
  exact hs
set_option maxHeartbeats 4000000 in
set_option maxRecDepth 100000 in
theorem mf_22000 {tab : px_T} (hn : px_nd tab) {h : Nat} (hh : 1 ≤ h) : px_Ok tab pn_i22000 h (Sg_22000 (f_22000 tab)) := by
  refine px_mth hn (by decide +kernel) (fun av σ k hS => ?_) (fun C hT hC av σ k hS => ?_)
  · obtain ⟨x0, av0, e0, h0⟩ := px_r1_spec hS
    obtain ⟨x1, av1, e1, h1⟩ := px_i1_spec h0
    obtain ⟨ez, hz⟩ := h1
    subst ez
    subst e1
    subst e0
    exact Nat.le_of_ble_eq_true rfl
  · obtain ⟨x0, av0, e0, h0⟩ := px_r1_spec hS
    obtain ⟨x1, av1, e1, h1⟩ := px_i1_spec h0
    obtain ⟨ez, hz⟩ := h1
    subst ez
    subst e1
    subst e0
    subst hT
    refine px_runG (h - 1) ck_22000 [] [(5, kp_22000_5 (fun y0 y1 y2 y3 τ => oW (f_22000_5 (px_tb C) y0 y1 y3 y2 τ) (fun τ => k none τ)))] 80 hC px_nosp (by omega) (px_cut1 (kq_22000_5 (fun y0 y1 y2 y3 τ hq => by exact rl_22000_5 hn (by omega) hC (y2, τ) hq)) px_nocut) (fun G Jf hG hJf => ?_)
    simp only [f_22000, oW_some, oW_none, oW_bind, oW_map, oW_ite, oW_bn, oW_gd, oW_oA, Sum.elim_inl, Sum.elim_inr, oW_and, true_and, and_true, false_and, and_false, true_or, or_true, false_or, or_false, and_self, or_self, not_false_eq_true, not_true_eq_false, false_implies, forall_const, true_implies, eq_self, ↓reduceIte] at hz
    simp only [↓hG, ↓hJf, ↓px_vc, ↓px_ex, ↓px_jp, ↓px_gi, ↓px_gl, ↓px_gr, ↓px_s1, ↓px_s2, ↓px_nl, ↓px_i1, ↓px_l1, ↓px_r1_o, ↓px_q1, ↓px_i2, ↓px_l2, ↓px_il, ↓px_d0, ↓px_d1, ↓px_d2, ↓px_pop, px_sz, ↓px_sp, ↓px_rd, ↓px_rf, ↓pn_xf, ↓px_pt, ↓px_rok, ↓px_rv_o, ↓px_fill, ↓px_sl, ↓px_sw, ↓pn_SW, lc_lt, lc_ge, lc_gt, lc_le, lc_eq, ↓reduceIte, Nat.reduceEqDiff, Nat.reduceLeDiff, Nat.reduceAdd, Nat.reduceSub, reduceCtorEq, List.length_cons, List.length_nil, Option.toList_some, Option.toList_none, List.cons_append, List.nil_append, true_and, and_true, false_and, and_false, true_or, or_true, false_or, or_false, and_self, or_self, not_false_eq_true, not_true_eq_false, false_implies, forall_const, true_implies, eq_self, ↓kI_s, ↓kJ_s, ↓kN_s, ↓kO_s, ↓kZ_s, ↓kE_s, oW_and, ↓bk_22000, ↓pn_i22000, oW_some, oW_none, oW_bind, oW_map, oW_ite, oW_bn, oW_gd, oW_oA, Sum.elim_inl, Sum.elim_inr, ↓kp_22000_5]
    exact hz
def Sg_10002 (g : px_M → Nat → Option (px_M)) : px_S := fun av σ k => px_r1 av (fun x0 av => av = [] ∧ oW (g σ x0) (fun τ => k none τ))
/-- NoThree$Rules.clear()V -/
noncomputable def f_10002 (tab : px_T) (σ : px_M) (x0 : Nat) : Option (px_M) := gd (px_obj (px_lay tab x0) 10) (gd (px_obj (px_lay tab x0) 10) (gd (px_obj (px_lay tab x0) 10) (((((px_wi (px_wi σ x0 0 (nI 0)) x0 4 (nI 0))).2.2 x0 2)).bind fun n1 => (f_22000 tab (px_wi (px_wi σ x0 0 (nI 0)) x0 4 (nI 0)) n1 ((nI 0))).bind fun q2 => some (q2))))
set_option maxHeartbeats 4000000 in
set_option maxRecDepth 100000 in
theorem mf_10002 {tab : px_T} (hn : px_nd tab) {h : Nat} (hh : 2 ≤ h) : px_Ok tab pn_i10002 h (Sg_10002 (f_10002 tab)) := by
  refine px_mth hn (by decide +kernel) (fun av σ k hS => ?_) (fun C hT hC av σ k hS => ?_)
  · obtain ⟨x0, av0, e0, h0⟩ := px_r1_spec hS
    obtain ⟨ez, hz⟩ := h0
    subst ez
    subst e0
    exact Nat.le_of_ble_eq_true rfl
  · obtain ⟨x0, av0, e0, h0⟩ := px_r1_spec hS
    obtain ⟨ez, hz⟩ := h0
    subst ez
    subst e0
    subst hT
    refine px_runG (h - 1) ck_10002 [(22000, Sg_22000 (f_22000 (px_tb C)))] [] 80 hC (px_sp1 (mf_22000 hn (by omega)) px_nosp) (by omega) px_nocut (fun G Jf hG hJf => ?_)
    simp only [f_10002, oW_some, oW_none, oW_bind, oW_map, oW_ite, oW_bn, oW_gd, oW_oA, Sum.elim_inl, Sum.elim_inr, oW_and, true_and, and_true, false_and, and_false, true_or, or_true, false_or, or_false, and_self, or_self, not_false_eq_true, not_true_eq_false, false_implies, forall_const, true_implies, eq_self, ↓reduceIte] at hz
    simp only [↓hG, ↓hJf, ↓px_vc, ↓px_ex, ↓px_jp, ↓px_gi, ↓px_gl, ↓px_gr, ↓px_s1, ↓px_s2, ↓px_nl, ↓px_i1, ↓px_l1, ↓px_r1_o, ↓px_q1, ↓px_i2, ↓px_l2, ↓px_il, ↓px_d0, ↓px_d1, ↓px_d2, ↓px_pop, px_sz, ↓px_sp, ↓px_rd, ↓px_rf, ↓pn_xf, ↓px_pt, ↓px_rok, ↓px_rv_o, ↓px_fill, ↓px_sl, ↓px_sw, ↓pn_SW, lc_lt, lc_ge, lc_gt, lc_le, lc_eq, ↓reduceIte, Nat.reduceEqDiff, Nat.reduceLeDiff, Nat.reduceAdd, Nat.reduceSub, reduceCtorEq, List.length_cons, List.length_nil, Option.toList_some, Option.toList_none, List.cons_append, List.nil_append, true_and, and_true, false_and, and_false, true_or, or_true, false_or, or_false, and_self, or_self, not_false_eq_true, not_true_eq_false, false_implies, forall_const, true_implies, eq_self, ↓kI_s, ↓kJ_s, ↓kN_s, ↓kO_s, ↓kZ_s, ↓kE_s, oW_and, ↓bk_10002, ↓pn_i10002, oW_some, oW_none, oW_bind, oW_map, oW_ite, oW_bn, oW_gd, oW_oA, Sum.elim_inl, Sum.elim_inr, ↓Sg_22000]
    exact hz
def Sg_11008 (g : px_M → Nat → Option (px_M)) : px_S := fun av σ k => px_r1 av (fun x0 av => av = [] ∧ oW (g σ x0) (fun τ => k none τ))
/-- NoThree$Town.clear()V -/
noncomputable def f_11008 (tab : px_T) (σ : px_M) (x0 : Nat) : Option (px_M) := gd (px_obj (px_lay tab x0) 11) (gd (px_obj (px_lay tab x0) 11) (((((px_wi σ x0 0 (nI 0))).2.2 x0 1)).bind fun n1 => (f_22000 tab (px_wi σ x0 0 (nI 0)) n1 ((nI 0))).bind fun q2 => some (q2)))
set_option maxHeartbeats 4000000 in
set_option maxRecDepth 100000 in
theorem mf_11008 {tab : px_T} (hn : px_nd tab) {h : Nat} (hh : 2 ≤ h) : px_Ok tab pn_i11008 h (Sg_11008 (f_11008 tab)) := by
  refine px_mth hn (by decide +kernel) (fun av σ k hS => ?_) (fun C hT hC av σ k hS => ?_)
  · obtain ⟨x0, av0, e0, h0⟩ := px_r1_spec hS
    obtain ⟨ez, hz⟩ := h0
    subst ez
    subst e0
    exact Nat.le_of_ble_eq_true rfl
  · obtain ⟨x0, av0, e0, h0⟩ := px_r1_spec hS
    obtain ⟨ez, hz⟩ := h0
    subst ez
    subst e0
    subst hT
    refine px_runG (h - 1) ck_11008 [(22000, Sg_22000 (f_22000 (px_tb C)))] [] 80 hC (px_sp1 (mf_22000 hn (by omega)) px_nosp) (by omega) px_nocut (fun G Jf hG hJf => ?_)
    simp only [f_11008, oW_some, oW_none, oW_bind, oW_map, oW_ite, oW_bn, oW_gd, oW_oA, Sum.elim_inl, Sum.elim_inr, oW_and, true_and, and_true, false_and, and_false, true_or, or_true, false_or, or_false, and_self, or_self, not_false_eq_true, not_true_eq_false, false_implies, forall_const, true_implies, eq_self, ↓reduceIte] at hz
    simp only [↓hG, ↓hJf, ↓px_vc, ↓px_ex, ↓px_jp, ↓px_gi, ↓px_gl, ↓px_gr, ↓px_s1, ↓px_s2, ↓px_nl, ↓px_i1, ↓px_l1, ↓px_r1_o, ↓px_q1, ↓px_i2, ↓px_l2, ↓px_il, ↓px_d0, ↓px_d1, ↓px_d2, ↓px_pop, px_sz, ↓px_sp, ↓px_rd, ↓px_rf, ↓pn_xf, ↓px_pt, ↓px_rok, ↓px_rv_o, ↓px_fill, ↓px_sl, ↓px_sw, ↓pn_SW, lc_lt, lc_ge, lc_gt, lc_le, lc_eq, ↓reduceIte, Nat.reduceEqDiff, Nat.reduceLeDiff, Nat.reduceAdd, Nat.reduceSub, reduceCtorEq, List.length_cons, List.length_nil, Option.toList_some, Option.toList_none, List.cons_append, List.nil_append, true_and, and_true, false_and, and_false, true_or, or_true, false_or, or_false, and_self, or_self, not_false_eq_true, not_true_eq_false, false_implies, forall_const, true_implies, eq_self, ↓kI_s, ↓kJ_s, ↓kN_s, ↓kO_s, ↓kZ_s, ↓kE_s, oW_and, ↓bk_11008, ↓pn_i11008, oW_some, oW_none, oW_bind, oW_map, oW_ite, oW_bn, oW_gd, oW_oA, Sum.elim_inl, Sum.elim_inr, ↓Sg_22000]
    exact hz
def Sg_1003 (g : px_M → Nat → Option (px_M)) : px_S := fun av σ k => px_r1 av (fun x0 av => av = [] ∧ oW (g σ x0) (fun τ => k none τ))
/-- NoThree$Annals.clear()V -/
noncomputable def f_1003 (tab : px_T) (σ : px_M) (x0 : Nat) : Option (px_M) := gd (px_obj (px_lay tab x0) 1) ((((σ).2.2 x0 0)).bind fun n1 => gd (px_obj (px_lay tab n1) 11) ((f_11008 tab σ n1).bind fun q2 => gd (px_obj (px_lay tab x0) 1) ((((q2).2.2 x0 1)).bind fun n3 => gd (px_obj (px_lay tab n3) 10) ((f_10002 tab q2 n3).bind fun q4 => gd (px_obj (px_lay tab x0) 1) (gd (px_obj (px_lay tab x0) 1) (some ((px_wi (px_wi q4 x0 2 (nI 0)) x0 3 (nI 0)))))))))
set_option maxHeartbeats 4000000 in
set_option maxRecDepth 100000 in
theorem mf_1003 {tab : px_T} (hn : px_nd tab) {h : Nat} (hh : 3 ≤ h) : px_Ok tab pn_i1003 h (Sg_1003 (f_1003 tab)) := by
  refine px_mth hn (by decide +kernel) (fun av σ k hS => ?_) (fun C hT hC av σ k hS => ?_)
  · obtain ⟨x0, av0, e0, h0⟩ := px_r1_spec hS
    obtain ⟨ez, hz⟩ := h0
    subst ez
    subst e0
    exact Nat.le_of_ble_eq_true rfl
  · obtain ⟨x0, av0, e0, h0⟩ := px_r1_spec hS
    obtain ⟨ez, hz⟩ := h0
    subst ez
    subst e0
    subst hT
    refine px_runG (h - 1) ck_1003 [(10002, Sg_10002 (f_10002 (px_tb C))), (11008, Sg_11008 (f_11008 (px_tb C)))] [] 80 hC (px_sp1 (mf_10002 hn (by omega)) (px_sp1 (mf_11008 hn (by omega)) px_nosp)) (by omega) px_nocut (fun G Jf hG hJf => ?_)
    simp only [f_1003, oW_some, oW_none, oW_bind, oW_map, oW_ite, oW_bn, oW_gd, oW_oA, Sum.elim_inl, Sum.elim_inr, oW_and, true_and, and_true, false_and, and_false, true_or, or_true, false_or, or_false, and_self, or_self, not_false_eq_true, not_true_eq_false, false_implies, forall_const, true_implies, eq_self, ↓reduceIte] at hz
    simp only [↓hG, ↓hJf, ↓px_vc, ↓px_ex, ↓px_jp, ↓px_gi, ↓px_gl, ↓px_gr, ↓px_s1, ↓px_s2, ↓px_nl, ↓px_i1, ↓px_l1, ↓px_r1_o, ↓px_q1, ↓px_i2, ↓px_l2, ↓px_il, ↓px_d0, ↓px_d1, ↓px_d2, ↓px_pop, px_sz, ↓px_sp, ↓px_rd, ↓px_rf, ↓pn_xf, ↓px_pt, ↓px_rok, ↓px_rv_o, ↓px_fill, ↓px_sl, ↓px_sw, ↓pn_SW, lc_lt, lc_ge, lc_gt, lc_le, lc_eq, ↓reduceIte, Nat.reduceEqDiff, Nat.reduceLeDiff, Nat.reduceAdd, Nat.reduceSub, reduceCtorEq, List.length_cons, List.length_nil, Option.toList_some, Option.toList_none, List.cons_append, List.nil_append, true_and, and_true, false_and, and_false, true_or, or_true, false_or, or_false, and_self, or_self, not_false_eq_true, not_true_eq_false, false_implies, forall_const, true_implies, eq_self, ↓kI_s, ↓kJ_s, ↓kN_s, ↓kO_s, ↓kZ_s, ↓kE_s, oW_and, ↓bk_1003, ↓pn_i1003, oW_some, oW_none, oW_bind, oW_map, oW_ite, oW_bn, oW_gd, oW_oA, Sum.elim_inl, Sum.elim_inr, ↓Sg_10002, ↓Sg_11008]
    exact hz
def Sg_20001 (g : px_M → Int32 → Int32 → Option (Int32)) : px_S := fun av σ k => px_i1 av (fun x0 av => px_i1 av (fun x1 av => av = [] ∧ oW (g σ x0 x1) (fun r => k (some (.inl r)) σ)))
/-- java/lang/Math.min(II)I -/
noncomputable def f_20001 (tab : px_T) (σ : px_M) (x0 : Int32) (x1 : Int32) : Option (Int32) := if x1 < x0 then (some (x1)) else (some (x0))
set_option maxHeartbeats 4000000 in
set_option maxRecDepth 100000 in
theorem mf_20001 {tab : px_T} (hn : px_nd tab) {h : Nat} (hh : 1 ≤ h) : px_Ok tab pn_i20001 h (Sg_20001 (f_20001 tab)) := by
  refine px_mth hn (by decide +kernel) (fun av σ k hS => ?_) (fun C hT hC av σ k hS => ?_)
  · obtain ⟨x0, av0, e0, h0⟩ := px_i1_spec hS
    obtain ⟨x1, av1, e1, h1⟩ := px_i1_spec h0
    obtain ⟨ez, hz⟩ := h1
    subst ez
    subst e1
    subst e0
    exact Nat.le_of_ble_eq_true rfl
  · obtain ⟨x0, av0, e0, h0⟩ := px_i1_spec hS
    obtain ⟨x1, av1, e1, h1⟩ := px_i1_spec h0
    obtain ⟨ez, hz⟩ := h1
    subst ez
    subst e1
    subst e0
    subst hT
    refine px_runG (h - 1) ck_20001 [] [] 80 hC px_nosp (by omega) px_nocut (fun G Jf hG hJf => ?_)
    simp only [f_20001, oW_some, oW_none, oW_bind, oW_map, oW_ite, oW_bn, oW_gd, oW_oA, Sum.elim_inl, Sum.elim_inr, oW_and, true_and, and_true, false_and, and_false, true_or, or_true, false_or, or_false, and_self, or_self, not_false_eq_true, not_true_eq_false, false_implies, forall_const, true_implies, eq_self, ↓reduceIte] at hz
    simp only [↓hG, ↓hJf, ↓px_vc, ↓px_ex, ↓px_jp, ↓px_gi, ↓px_gl, ↓px_gr, ↓px_s1, ↓px_s2, ↓px_nl, ↓px_i1, ↓px_l1, ↓px_r1_o, ↓px_q1, ↓px_i2, ↓px_l2, ↓px_il, ↓px_d0, ↓px_d1, ↓px_d2, ↓px_pop, px_sz, ↓px_sp, ↓px_rd, ↓px_rf, ↓pn_xf, ↓px_pt, ↓px_rok, ↓px_rv_o, ↓px_fill, ↓px_sl, ↓px_sw, ↓pn_SW, lc_lt, lc_ge, lc_gt, lc_le, lc_eq, ↓reduceIte, Nat.reduceEqDiff, Nat.reduceLeDiff, Nat.reduceAdd, Nat.reduceSub, reduceCtorEq, List.length_cons, List.length_nil, Option.toList_some, Option.toList_none, List.cons_append, List.nil_append, true_and, and_true, false_and, and_false, true_or, or_true, false_or, or_false, and_self, or_self, not_false_eq_true, not_true_eq_false, false_implies, forall_const, true_implies, eq_self, ↓kI_s, ↓kJ_s, ↓kN_s, ↓kO_s, ↓kZ_s, ↓kE_s, oW_and, ↓bk_20001, ↓pn_i20001, oW_some, oW_none, oW_bind, oW_map, oW_ite, oW_bn, oW_gd, oW_oA, Sum.elim_inl, Sum.elim_inr]
    exact hz
def Sg_1004 (g : px_M → Nat → Option (px_M)) : px_S := fun av σ k => px_r1 av (fun x0 av => av = [] ∧ oW (g σ x0) (fun τ => k none τ))
/-- NoThree$Annals.remember()V -/
noncomputable def F_1004_35 (tab : px_T) (x0 : Nat) (x1 : Int32) (x2 : Int32) (σ : px_M) : Option ((Int32 × px_M) ⊕ (px_M)) := if (nI 11) ≤ x2 then (gd (px_obj (px_lay tab x0) 1) (gd (px_obj (px_lay tab x0) 1) ((((σ).2.2 x0 0)).bind fun n1 => gd (px_obj (px_lay tab n1) 11) ((((σ).2.2 x0 5)).bind fun n2 => oA (px_lay tab n2) fun t3 l4 => gd (t3 = 0) (gd (vp_in (x1 + (nI 11)) l4) (gd (px_obj (px_lay tab x0) 1) ((f_20001 tab (px_wi σ n2 ((x1 + (nI 11))).toNatClampNeg ((σ).1 n1 0)) (((((px_wi σ n2 ((x1 + (nI 11))).toNatClampNeg ((σ).1 n1 0))).1 x0 3) + (nI 1))) ((nI 12))).bind fun r5 => gd (px_obj (px_lay tab x0) 1) (some (.inr ((px_wi (px_wi σ n2 ((x1 + (nI 11))).toNatClampNeg ((σ).1 n1 0)) x0 3 r5))))))))))) else (gd (px_obj (px_lay tab x0) 1) (gd (px_obj (px_lay tab x0) 1) ((((σ).2.2 x0 0)).bind fun n6 => gd (px_obj (px_lay tab n6) 11) ((((σ).2.2 n6 1)).bind fun n7 => oA (px_lay tab n7) fun t8 l9 => gd (t8 = 0 ∨ t8 = 11) (gd (vp_in x2 l9) ((((σ).2.2 x0 5)).bind fun n10 => oA (px_lay tab n10) fun t11 l12 => gd (t11 = 0) (gd (vp_in (x1 + x2) l12) (some (.inl (((x2 + (nI 1)), (px_wi σ n10 ((x1 + x2)).toNatClampNeg (px_av t8 σ n7 (x2).toNatClampNeg)))))))))))))
noncomputable def f_1004_35 (tab : px_T) (x0 : Nat) (x1 : Int32) (x2 : Int32) (σ : px_M) : Option (px_M) := lpO (fun s : Int32 × px_M => F_1004_35 tab x0 x1 s.1 s.2) (x2, σ)
theorem f_1004_35_eq (tab : px_T) (x0 : Nat) (x1 : Int32) (x2 : Int32) (σ : px_M) : f_1004_35 tab x0 x1 x2 σ = (F_1004_35 tab x0 x1 x2 σ).bind (Sum.elim (fun s => f_1004_35 tab x0 x1 s.1 s.2) some) := lpO_eq _ _
noncomputable def f_1004 (tab : px_T) (σ : px_M) (x0 : Nat) : Option (px_M) := gd (px_obj (px_lay tab x0) 1) (if (nI 12) ≤ (((σ).1 x0 4) + (nI 1)) then (gd (px_obj (px_lay tab x0) 1) (gd (px_obj (px_lay tab x0) 1) (f_1004_35 tab x0 (((((px_wi σ x0 4 (nI 0))).1 x0 4) * (nI 12))) ((nI 0)) ((px_wi σ x0 4 (nI 0)))))) else (gd (px_obj (px_lay tab x0) 1) (gd (px_obj (px_lay tab x0) 1) (gd (px_obj (px_lay tab x0) 1) (f_1004_35 tab x0 (((((px_wi σ x0 4 (((σ).1 x0 4) + (nI 1)))).1 x0 4) * (nI 12))) ((nI 0)) ((px_wi σ x0 4 (((σ).1 x0 4) + (nI 1)))))))))
def kp_1004_35 (Q : Nat → Int32 → Int32 → px_M → Prop) : px_P := fun ls st τ => st = [] ∧ kN ls (fun x0 ls => kI ls (fun x1 ls => kI ls (fun x2 ls => kE ls (Q x0 x1 x2 τ))))
theorem kq_1004_35 {C : px_C} {k : Option px_V → px_M → Prop} {Q : Nat → Int32 → Int32 → px_M → Prop} (H : ∀ (x0 : Nat) (x1 : Int32) (x2 : Int32) (τ : px_M), Q x0 x1 x2 τ → px_W C k 35 [some (.inr (.inr (some x0))), some (.inl x1), some (.inl x2)] [] τ) : ∀ ls st τ, kp_1004_35 Q ls st τ → px_W C k 35 ls st τ := by
  intro ls st τ hz
  obtain ⟨ez, h0⟩ := hz
  obtain ⟨x0, l0, e0, h1⟩ := kN_sp h0
  obtain ⟨x1, l1, e1, h2⟩ := kI_sp h1
  obtain ⟨x2, l2, e2, h3⟩ := kI_sp h2
  obtain ⟨ey, hy⟩ := kE_sp h3
  subst ez
  subst ey
  subst e2
  subst e1
  subst e0
  exact H x0 x1 x2 τ hy
set_option maxHeartbeats 4000000 in
set_option maxRecDepth 100000 in
theorem rl_1004_35 {C : px_C} (hn : px_nd (px_tb C)) {h : Nat} (hh : 2 ≤ h) (hC : px_ok C pn_i1004 h) {k : Option px_V → px_M → Prop} {x0 : Nat} {x1 : Int32} : ∀ s : Int32 × px_M, oW (f_1004_35 (px_tb C) x0 x1 s.1 s.2) (fun τ => k none τ) → (fun s : Int32 × px_M => px_W C k 35 [some (.inr (.inr (some x0))), some (.inl x1), some (.inl s.1)] [] s.2) s := by
  intro s h0
  refine lpO_sound (P := (fun s : Int32 × px_M => px_W C k 35 [some (.inr (.inr (some x0))), some (.inl x1), some (.inl s.1)] [] s.2)) (fun s hs => ?_) h0
  obtain ⟨x2, σ⟩ := s
  refine px_runG (h - 1) ck_1004 [(20001, Sg_20001 (f_20001 (px_tb C)))] [(35, kp_1004_35 (fun y0 y1 y2 τ => y0 = x0 ∧ y1 = x1 ∧ (fun s : Int32 × px_M => px_W C k 35 [some (.inr (.inr (some x0))), some (.inl x1), some (.inl s.1)] [] s.2) (y2, τ)))] 80 hC (px_sp1 (mf_20001 hn (by omega)) px_nosp) (by omega) (px_cut1 (kq_1004_35 (fun y0 y1 y2 τ hq => by obtain ⟨rfl, rfl, hq⟩ := hq; exact hq)) px_nocut) (fun G Jf hG hJf => ?_)
  simp only [F_1004_35, oW_some, oW_none, oW_bind, oW_map, oW_ite, oW_bn, oW_gd, oW_oA, Sum.elim_inl, Sum.elim_inr, oW_and, true_and, and_true, false_and, and_false, true_or, or_true, false_or, or_false, and_self, or_self, not_false_eq_true, not_true_eq_false, false_implies, forall_const, true_implies, eq_self, ↓reduceIte] at hs
  simp only [↓hG, ↓hJf, ↓px_vc, ↓px_ex, ↓px_jp, ↓px_gi, ↓px_gl, ↓px_gr, ↓px_s1, ↓px_s2, ↓px_nl, ↓px_i1, ↓px_l1, ↓px_r1_o, ↓px_q1, ↓px_i2, ↓px_l2, ↓px_il, ↓px_d0, ↓px_d1, ↓px_d2, ↓px_pop, px_sz, ↓px_sp, ↓px_rd, ↓px_rf, ↓pn_xf, ↓px_pt, ↓px_rok, ↓px_rv_o, ↓px_fill, ↓px_sl, ↓px_sw, ↓pn_SW, lc_lt, lc_ge, lc_gt, lc_le, lc_eq, ↓reduceIte, Nat.reduceEqDiff, Nat.reduceLeDiff, Nat.reduceAdd, Nat.reduceSub, reduceCtorEq, List.length_cons, List.length_nil, Option.toList_some, Option.toList_none, List.cons_append, List.nil_append, true_and, and_true, false_and, and_false, true_or, or_true, false_or, or_false, and_self, or_self, not_false_eq_true, not_true_eq_false, false_implies, forall_const, true_implies, eq_self, ↓kI_s, ↓kJ_s, ↓kN_s, ↓kO_s, ↓kZ_s, ↓kE_s, oW_and, ↓bk_1004, ↓pn_i1004, oW_some, oW_none, oW_bind, oW_map, oW_ite, oW_bn, oW_gd, oW_oA, Sum.elim_inl, Sum.elim_inr, ↓Sg_20001, ↓kp_1004_35]
  exact hs
set_option maxHeartbeats 4000000 in
set_option maxRecDepth 100000 in
theorem mf_1004 {tab : px_T} (hn : px_nd tab) {h : Nat} (hh : 2 ≤ h) : px_Ok tab pn_i1004 h (Sg_1004 (f_1004 tab)) := by
  refine px_mth hn (by decide +kernel) (fun av σ k hS => ?_) (fun C hT hC av σ k hS => ?_)
  · obtain ⟨x0, av0, e0, h0⟩ := px_r1_spec hS
    obtain ⟨ez, hz⟩ := h0
    subst ez
    subst e0
    exact Nat.le_of_ble_eq_true rfl
  · obtain ⟨x0, av0, e0, h0⟩ := px_r1_spec hS
    obtain ⟨ez, hz⟩ := h0
    subst ez
    subst e0
    subst hT
    refine px_runG (h - 1) ck_1004 [] [(35, kp_1004_35 (fun y0 y1 y2 τ => oW (f_1004_35 (px_tb C) y0 y1 y2 τ) (fun τ => k none τ)))] 80 hC px_nosp (by omega) (px_cut1 (kq_1004_35 (fun y0 y1 y2 τ hq => by exact rl_1004_35 hn (by omega) hC (y2, τ) hq)) px_nocut) (fun G Jf hG hJf => ?_)
    simp only [f_1004, oW_some, oW_none, oW_bind, oW_map, oW_ite, oW_bn, oW_gd, oW_oA, Sum.elim_inl, Sum.elim_inr, oW_and, true_and, and_true, false_and, and_false, true_or, or_true, false_or, or_false, and_self, or_self, not_false_eq_true, not_true_eq_false, false_implies, forall_const, true_implies, eq_self, ↓reduceIte] at hz
    simp only [↓hG, ↓hJf, ↓px_vc, ↓px_ex, ↓px_jp, ↓px_gi, ↓px_gl, ↓px_gr, ↓px_s1, ↓px_s2, ↓px_nl, ↓px_i1, ↓px_l1, ↓px_r1_o, ↓px_q1, ↓px_i2, ↓px_l2, ↓px_il, ↓px_d0, ↓px_d1, ↓px_d2, ↓px_pop, px_sz, ↓px_sp, ↓px_rd, ↓px_rf, ↓pn_xf, ↓px_pt, ↓px_rok, ↓px_rv_o, ↓px_fill, ↓px_sl, ↓px_sw, ↓pn_SW, lc_lt, lc_ge, lc_gt, lc_le, lc_eq, ↓reduceIte, Nat.reduceEqDiff, Nat.reduceLeDiff, Nat.reduceAdd, Nat.reduceSub, reduceCtorEq, List.length_cons, List.length_nil, Option.toList_some, Option.toList_none, List.cons_append, List.nil_append, true_and, and_true, false_and, and_false, true_or, or_true, false_or, or_false, and_self, or_self, not_false_eq_true, not_true_eq_false, false_implies, forall_const, true_implies, eq_self, ↓kI_s, ↓kJ_s, ↓kN_s, ↓kO_s, ↓kZ_s, ↓kE_s, oW_and, ↓bk_1004, ↓pn_i1004, oW_some, oW_none, oW_bind, oW_map, oW_ite, oW_bn, oW_gd, oW_oA, Sum.elim_inl, Sum.elim_inr, ↓kp_1004_35]
    exact hz
