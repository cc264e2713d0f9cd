/-! shallow functions, printed by wip/whole/decomp.py -/
def Sg_12010 (g : px_M → Nat → Int32 → Int32 → Option (Int32 × px_M)) : px_S := fun av σ k => px_r1 av (fun x0 av => px_i1 av (fun x1 av => px_i1 av (fun x2 av => av = [] ∧ oW (g σ x0 x1 x2) (fun q => k (some (.inl q.1)) q.2))))
/-- NoThree.why(II)I -/
noncomputable def f_12010 (tab : px_T) (σ : px_M) (x0 : Nat) (x1 : Int32) (x2 : Int32) : Option (Int32 × px_M) := gd (px_obj (px_lay tab x0) 12) ((((σ).2.2 x0 0)).bind fun n1 => gd (px_obj (px_lay tab n1) 1) ((((σ).2.2 n1 0)).bind fun n2 => (f_12059 tab σ x0 n2).bind fun q3 => (((q3).2.2 x0 9)).bind fun n4 => gd (px_obj (px_lay tab n4) 2) ((f_2005 tab q3 n4 x1 x2).bind fun q5 => some ((q5.1, q5.2)))))
set_option maxHeartbeats 4000000 in
set_option maxRecDepth 100000 in
theorem mf_12010 {tab : px_T} (hn : px_nd tab) {h : Nat} (hh : 31 ≤ h) : px_Ok tab pn_i12010 h (Sg_12010 (f_12010 tab)) := by
  refine px_mth hn (by decide +kernel) (fun av σ k hS => ?_) (fun C hT hC av σ k hS => ?_)
  · obtain ⟨x0, av0, e0, h0⟩ := px_r1_spec hS
    obtain ⟨x1, av1, e1, h1⟩ := px_i1_spec h0
    obtain ⟨x2, av2, e2, h2⟩ := px_i1_spec h1
    obtain ⟨ez, hs⟩ := h2
    subst ez
    subst e2
    subst e1
    subst e0
    exact Nat.le_of_ble_eq_true rfl
  · obtain ⟨x0, av0, e0, h0⟩ := px_r1_spec hS
    obtain ⟨x1, av1, e1, h1⟩ := px_i1_spec h0
    obtain ⟨x2, av2, e2, h2⟩ := px_i1_spec h1
    obtain ⟨ez, hs⟩ := h2
    subst ez
    subst e2
    subst e1
    subst e0
    subst hT
    refine px_runG (h - 1) ck_12010 [(2005, Sg_2005 (f_2005 (px_tb C))), (12059, Sg_12059 (f_12059 (px_tb C)))] [] 80 hC (px_sp1 (mf_2005 hn (by omega)) (px_sp1 (mf_12059 hn (by omega)) px_nosp)) (by omega) px_nocut (fun G Jf hG hJf => ?_)
    unfold f_12010 at hs
    obtain ⟨hc0, hs⟩ := oW_gx hs
    obtain ⟨n1, hc1, hs⟩ := oW_bx hs
    obtain ⟨hc2, hs⟩ := oW_gx hs
    obtain ⟨n2, hc3, hs⟩ := oW_bx hs
    obtain ⟨q3, hc4, hs⟩ := oW_bx hs
    obtain ⟨n4, hc5, hs⟩ := oW_bx hs
    obtain ⟨hc6, hs⟩ := oW_gx hs
    obtain ⟨q5, hc7, hs⟩ := oW_bx hs
    simp only [↓hG, ↓hJf, ↓px_vc, ↓px_ex, ↓px_jp, ↓px_gi, ↓px_gl, ↓px_gr, ↓px_s1, ↓px_s2, ↓px_nl, ↓px_i1, ↓px_l1, ↓px_r1_o, ↓px_q1, ↓px_i2, ↓px_l2, ↓px_il, ↓px_d0, ↓px_d1, ↓px_d2, ↓px_pop, px_sz, ↓px_sp, ↓px_rd, ↓px_rf, ↓pn_xf, ↓px_pt, ↓px_rok, ↓px_rv_o, ↓px_fill, ↓px_sl, ↓px_sw, ↓pn_SW, lc_lt, lc_ge, lc_gt, lc_le, lc_eq, ↓reduceIte, Nat.reduceEqDiff, Nat.reduceLeDiff, Nat.reduceAdd, Nat.reduceSub, reduceCtorEq, List.length_cons, List.length_nil, Option.toList_some, Option.toList_none, List.cons_append, List.nil_append, true_and, and_true, false_and, and_false, true_or, or_true, false_or, or_false, and_self, or_self, not_false_eq_true, not_true_eq_false, false_implies, forall_const, true_implies, eq_self, ↓kI_s, ↓kJ_s, ↓kN_s, ↓kO_s, ↓kZ_s, ↓kE_s, oW_some, px_arr_s, nI_10f, ↓bk_12010, ↓pn_i12010, ↓Sg_2005, ↓Sg_12059, eq_true hc0, hc1, eq_true hc2, hc3, hc4, hc5, eq_true hc6, hc7]
    rw [oW_some] at hs
    exact hs
def Sg_12011 (g : px_M → Nat → Int32 → Int32 → Option (Int32 × px_M)) : px_S := fun av σ k => px_r1 av (fun x0 av => px_i1 av (fun x1 av => px_i1 av (fun x2 av => av = [] ∧ oW (g σ x0 x1 x2) (fun q => k (some (.inl q.1)) q.2))))
/-- NoThree.join(II)I -/
noncomputable def f_12011_30 (tab : px_T) (σ : px_M) (x0 : Nat) (x1 : Int32) (x2 : Int32) : Option (Int32 × px_M) := gd (px_obj (px_lay tab x0) 12) ((((σ).2.2 x0 0)).bind fun n1 => gd (px_obj (px_lay tab n1) 1) ((f_1004 tab σ n1).bind fun q2 => (((q2).2.2 x0 0)).bind fun n3 => gd (px_obj (px_lay tab n3) 1) ((((q2).2.2 n3 0)).bind fun n4 => gd (px_obj (px_lay tab n4) 11) ((f_11009 tab q2 n4 x1 x2).bind fun q5 => (((q5).2.2 x0 0)).bind fun n6 => gd (px_obj (px_lay tab n6) 1) ((((q5).2.2 n6 0)).bind fun n7 => gd (px_obj (px_lay tab n7) 11) ((f_11015 tab q5 n7).bind fun r8 => some ((r8, q5))))))))
noncomputable def f_12011_25 (tab : px_T) (σ : px_M) (x3 : Int32) : Option (Int32 × px_M) := some ((((-10) - x3), σ))
noncomputable def f_12011 (tab : px_T) (σ : px_M) (x0 : Nat) (x1 : Int32) (x2 : Int32) : Option (Int32 × px_M) := gd (px_obj (px_lay tab x0) 12) ((((σ).2.2 x0 0)).bind fun n1 => gd (px_obj (px_lay tab n1) 1) ((((σ).2.2 n1 0)).bind fun n2 => (f_12059 tab σ x0 n2).bind fun q3 => (((q3).2.2 x0 9)).bind fun n4 => gd (px_obj (px_lay tab n4) 2) ((f_2005 tab q3 n4 x1 x2).bind fun q5 => if q5.1 = nI 0 then (f_12011_30 tab q5.2 x0 x1 x2) else (f_12011_25 tab q5.2 q5.1))))
def kp_12011_30 (Q : Nat → Int32 → Int32 → px_M → Prop) : px_P := fun ls st τ => st = [] ∧ kN ls (fun x0 ls => kI ls (fun x1 ls => kI ls (fun x2 ls => kZ ls (fun ls => kE ls (Q x0 x1 x2 τ)))))
theorem kq_12011_30 {C : px_C} {k : Option px_V → px_M → Prop} {Q : Nat → Int32 → Int32 → px_M → Prop} (H : ∀ (x0 : Nat) (x1 : Int32) (x2 : Int32) (τ : px_M), Q x0 x1 x2 τ → ∀ (z3 : Option px_V), px_W C k 30 [some (.inr (.inr (some x0))), some (.inl x1), some (.inl x2), z3] [] τ) : ∀ ls st τ, kp_12011_30 Q ls st τ → px_W C k 30 ls st τ := by
  intro ls st τ hz
  obtain ⟨ez, h0⟩ := hz
  obtain ⟨x0, l0, e0, h1⟩ := kN_sp h0
  obtain ⟨x1, l1, e1, h2⟩ := kI_sp h1
  obtain ⟨x2, l2, e2, h3⟩ := kI_sp h2
  obtain ⟨z3, l3, e3, h4⟩ := kZ_sp h3
  obtain ⟨ey, hy⟩ := kE_sp h4
  subst ez
  subst ey
  subst e3
  subst e2
  subst e1
  subst e0
  exact H x0 x1 x2 τ hy z3
def kp_12011_25 (Q : Int32 → px_M → Prop) : px_P := fun ls st τ => st = [] ∧ kZ ls (fun ls => kZ ls (fun ls => kZ ls (fun ls => kI ls (fun x3 ls => kE ls (Q x3 τ)))))
theorem kq_12011_25 {C : px_C} {k : Option px_V → px_M → Prop} {Q : Int32 → px_M → Prop} (H : ∀ (x3 : Int32) (τ : px_M), Q x3 τ → ∀ (z0 : Option px_V) (z1 : Option px_V) (z2 : Option px_V), px_W C k 25 [z0, z1, z2, some (.inl x3)] [] τ) : ∀ ls st τ, kp_12011_25 Q ls st τ → px_W C k 25 ls st τ := by
  intro ls st τ hz
  obtain ⟨ez, h0⟩ := hz
  obtain ⟨z0, l0, e0, h1⟩ := kZ_sp h0
  obtain ⟨z1, l1, e1, h2⟩ := kZ_sp h1
  obtain ⟨z2, l2, e2, h3⟩ := kZ_sp h2
  obtain ⟨x3, l3, e3, h4⟩ := kI_sp h3
  obtain ⟨ey, hy⟩ := kE_sp h4
  subst ez
  subst ey
  subst e3
  subst e2
  subst e1
  subst e0
  exact H x3 τ hy z0 z1 z2
set_option maxHeartbeats 4000000 in
set_option maxRecDepth 100000 in
theorem rl_12011_30 {C : px_C} (hn : px_nd (px_tb C)) {h : Nat} (hh : 31 ≤ h) (hC : px_ok C pn_i12011 h) {k : Option px_V → px_M → Prop} {x0 : Nat} {x1 : Int32} {x2 : Int32} {σ : px_M} (hs : oW (f_12011_30 (px_tb C) σ x0 x1 x2) (fun q => k (some (.inl q.1)) q.2)) : ∀ (z3 : Option px_V), px_W C k 30 [some (.inr (.inr (some x0))), some (.inl x1), some (.inl x2), z3] [] σ := by
  intro z3
  refine px_runG (h - 1) ck_12011 [(1004, Sg_1004 (f_1004 (px_tb C))), (11009, Sg_11009 (f_11009 (px_tb C))), (11015, Sg_11015 (f_11015 (px_tb C)))] [] 80 hC (px_sp1 (mf_1004 hn (by omega)) (px_sp1 (mf_11009 hn (by omega)) (px_sp1 (mf_11015 hn (by omega)) px_nosp))) (by omega) px_nocut (fun G Jf hG hJf => ?_)
  unfold f_12011_30 at hs
  obtain ⟨hc0, hs⟩ := oW_gx hs
  obtain ⟨n1, hc1, hs⟩ := oW_bx hs
  obtain ⟨hc2, hs⟩ := oW_gx hs
  obtain ⟨q2, hc3, hs⟩ := oW_bx hs
  obtain ⟨n3, hc4, hs⟩ := oW_bx hs
  obtain ⟨hc5, hs⟩ := oW_gx hs
  obtain ⟨n4, hc6, hs⟩ := oW_bx hs
  obtain ⟨hc7, hs⟩ := oW_gx hs
  obtain ⟨q5, hc8, hs⟩ := oW_bx hs
  obtain ⟨n6, hc9, hs⟩ := oW_bx hs
  obtain ⟨hc10, hs⟩ := oW_gx hs
  obtain ⟨n7, hc11, hs⟩ := oW_bx hs
  obtain ⟨hc12, hs⟩ := oW_gx hs
  obtain ⟨r8, hc13, hs⟩ := oW_bx hs
  simp only [↓hG, ↓hJf, ↓px_vc, ↓px_ex, ↓px_jp, ↓px_gi, ↓px_gl, ↓px_gr, ↓px_s1, ↓px_s2, ↓px_nl, ↓px_i1, ↓px_l1, ↓px_r1_o, ↓px_q1, ↓px_i2, ↓px_l2, ↓px_il, ↓px_d0, ↓px_d1, ↓px_d2, ↓px_pop, px_sz, ↓px_sp, ↓px_rd, ↓px_rf, ↓pn_xf, ↓px_pt, ↓px_rok, ↓px_rv_o, ↓px_fill, ↓px_sl, ↓px_sw, ↓pn_SW, lc_lt, lc_ge, lc_gt, lc_le, lc_eq, ↓reduceIte, Nat.reduceEqDiff, Nat.reduceLeDiff, Nat.reduceAdd, Nat.reduceSub, reduceCtorEq, List.length_cons, List.length_nil, Option.toList_some, Option.toList_none, List.cons_append, List.nil_append, true_and, and_true, false_and, and_false, true_or, or_true, false_or, or_false, and_self, or_self, not_false_eq_true, not_true_eq_false, false_implies, forall_const, true_implies, eq_self, ↓kI_s, ↓kJ_s, ↓kN_s, ↓kO_s, ↓kZ_s, ↓kE_s, oW_some, px_arr_s, nI_10f, ↓bk_12011, ↓pn_i12011, ↓Sg_1004, ↓Sg_11009, ↓Sg_11015, eq_true hc0, hc1, eq_true hc2, hc3, hc4, eq_true hc5, hc6, eq_true hc7, hc8, hc9, eq_true hc10, hc11, eq_true hc12, hc13]
  rw [oW_some] at hs
  exact hs
set_option maxHeartbeats 4000000 in
set_option maxRecDepth 100000 in
theorem rl_12011_25 {C : px_C} (hn : px_nd (px_tb C)) {h : Nat} (hh : 31 ≤ h) (hC : px_ok C pn_i12011 h) {k : Option px_V → px_M → Prop} {x3 : Int32} {σ : px_M} (hs : oW (f_12011_25 (px_tb C) σ x3) (fun q => k (some (.inl q.1)) q.2)) : ∀ (z0 : Option px_V) (z1 : Option px_V) (z2 : Option px_V), px_W C k 25 [z0, z1, z2, some (.inl x3)] [] σ := by
  intro z0 z1 z2
  refine px_runG (h - 1) ck_12011 [] [] 80 hC px_nosp (by omega) px_nocut (fun G Jf hG hJf => ?_)
  unfold f_12011_25 at hs
  simp only [↓hG, ↓hJf, ↓px_vc, ↓px_ex, ↓px_jp, ↓px_gi, ↓px_gl, ↓px_gr, ↓px_s1, ↓px_s2, ↓px_nl, ↓px_i1, ↓px_l1, ↓px_r1_o, ↓px_q1, ↓px_i2, ↓px_l2, ↓px_il, ↓px_d0, ↓px_d1, ↓px_d2, ↓px_pop, px_sz, ↓px_sp, ↓px_rd, ↓px_rf, ↓pn_xf, ↓px_pt, ↓px_rok, ↓px_rv_o, ↓px_fill, ↓px_sl, ↓px_sw, ↓pn_SW, lc_lt, lc_ge, lc_gt, lc_le, lc_eq, ↓reduceIte, Nat.reduceEqDiff, Nat.reduceLeDiff, Nat.reduceAdd, Nat.reduceSub, reduceCtorEq, List.length_cons, List.length_nil, Option.toList_some, Option.toList_none, List.cons_append, List.nil_append, true_and, and_true, false_and, and_false, true_or, or_true, false_or, or_false, and_self, or_self, not_false_eq_true, not_true_eq_false, false_implies, forall_const, true_implies, eq_self, ↓kI_s, ↓kJ_s, ↓kN_s, ↓kO_s, ↓kZ_s, ↓kE_s, oW_some, px_arr_s, nI_10f, ↓bk_12011, ↓pn_i12011]
  rw [oW_some] at hs
  exact hs
set_option maxHeartbeats 4000000 in
set_option maxRecDepth 100000 in
theorem mf_12011 {tab : px_T} (hn : px_nd tab) {h : Nat} (hh : 31 ≤ h) : px_Ok tab pn_i12011 h (Sg_12011 (f_12011 tab)) := by
  refine px_mth hn (by decide +kernel) (fun av σ k hS => ?_) (fun C hT hC av σ k hS => ?_)
  · obtain ⟨x0, av0, e0, h0⟩ := px_r1_spec hS
    obtain ⟨x1, av1, e1, h1⟩ := px_i1_spec h0
    obtain ⟨x2, av2, e2, h2⟩ := px_i1_spec h1
    obtain ⟨ez, hs⟩ := h2
    subst ez
    subst e2
    subst e1
    subst e0
    exact Nat.le_of_ble_eq_true rfl
  · obtain ⟨x0, av0, e0, h0⟩ := px_r1_spec hS
    obtain ⟨x1, av1, e1, h1⟩ := px_i1_spec h0
    obtain ⟨x2, av2, e2, h2⟩ := px_i1_spec h1
    obtain ⟨ez, hs⟩ := h2
    subst ez
    subst e2
    subst e1
    subst e0
    subst hT
    refine px_runG (h - 1) ck_12011 [(2005, Sg_2005 (f_2005 (px_tb C))), (12059, Sg_12059 (f_12059 (px_tb C)))] [(25, kp_12011_25 (fun y3 τ => oW (f_12011_25 (px_tb C) τ y3) (fun q => k (some (.inl q.1)) q.2))), (30, kp_12011_30 (fun y0 y1 y2 τ => oW (f_12011_30 (px_tb C) τ y0 y1 y2) (fun q => k (some (.inl q.1)) q.2)))] 80 hC (px_sp1 (mf_2005 hn (by omega)) (px_sp1 (mf_12059 hn (by omega)) px_nosp)) (by omega) (px_cut1 (kq_12011_25 (fun y3 τ hq => by exact rl_12011_25 hn (by omega) hC  hq)) (px_cut1 (kq_12011_30 (fun y0 y1 y2 τ hq => by exact rl_12011_30 hn (by omega) hC  hq)) px_nocut)) (fun G Jf hG hJf => ?_)
    unfold f_12011 at hs
    obtain ⟨hc0, hs⟩ := oW_gx hs
    obtain ⟨n1, hc1, hs⟩ := oW_bx hs
    obtain ⟨hc2, hs⟩ := oW_gx hs
    obtain ⟨n2, hc3, hs⟩ := oW_bx hs
    obtain ⟨q3, hc4, hs⟩ := oW_bx hs
    obtain ⟨n4, hc5, hs⟩ := oW_bx hs
    obtain ⟨hc6, hs⟩ := oW_gx hs
    obtain ⟨q5, hc7, hs⟩ := oW_bx hs
    by_cases hc8 : q5.1 = nI 0
    · replace hs := oW_t hs hc8
      simp only [↓hG, ↓hJf, ↓px_vc, ↓px_ex, ↓px_jp, ↓px_gi, ↓px_gl, ↓px_gr, ↓px_s1, ↓px_s2, ↓px_nl, ↓px_i1, ↓px_l1, ↓px_r1_o, ↓px_q1, ↓px_i2, ↓px_l2, ↓px_il, ↓px_d0, ↓px_d1, ↓px_d2, ↓px_pop, px_sz, ↓px_sp, ↓px_rd, ↓px_rf, ↓pn_xf, ↓px_pt, ↓px_rok, ↓px_rv_o, ↓px_fill, ↓px_sl, ↓px_sw, ↓pn_SW, lc_lt, lc_ge, lc_gt, lc_le, lc_eq, ↓reduceIte, Nat.reduceEqDiff, Nat.reduceLeDiff, Nat.reduceAdd, Nat.reduceSub, reduceCtorEq, List.length_cons, List.length_nil, Option.toList_some, Option.toList_none, List.cons_append, List.nil_append, true_and, and_true, false_and, and_false, true_or, or_true, false_or, or_false, and_self, or_self, not_false_eq_true, not_true_eq_false, false_implies, forall_const, true_implies, eq_self, ↓kI_s, ↓kJ_s, ↓kN_s, ↓kO_s, ↓kZ_s, ↓kE_s, oW_some, px_arr_s, nI_10f, ↓bk_12011, ↓pn_i12011, ↓Sg_2005, ↓Sg_12059, ↓kp_12011_25, ↓kp_12011_30, eq_true hc0, hc1, eq_true hc2, hc3, hc4, hc5, eq_true hc6, hc7, eq_true hc8]
      exact hs
    · replace hs := oW_f hs hc8
      simp only [↓hG, ↓hJf, ↓px_vc, ↓px_ex, ↓px_jp, ↓px_gi, ↓px_gl, ↓px_gr, ↓px_s1, ↓px_s2, ↓px_nl, ↓px_i1, ↓px_l1, ↓px_r1_o, ↓px_q1, ↓px_i2, ↓px_l2, ↓px_il, ↓px_d0, ↓px_d1, ↓px_d2, ↓px_pop, px_sz, ↓px_sp, ↓px_rd, ↓px_rf, ↓pn_xf, ↓px_pt, ↓px_rok, ↓px_rv_o, ↓px_fill, ↓px_sl, ↓px_sw, ↓pn_SW, lc_lt, lc_ge, lc_gt, lc_le, lc_eq, ↓reduceIte, Nat.reduceEqDiff, Nat.reduceLeDiff, Nat.reduceAdd, Nat.reduceSub, reduceCtorEq, List.length_cons, List.length_nil, Option.toList_some, Option.toList_none, List.cons_append, List.nil_append, true_and, and_true, false_and, and_false, true_or, or_true, false_or, or_false, and_self, or_self, not_false_eq_true, not_true_eq_false, false_implies, forall_const, true_implies, eq_self, ↓kI_s, ↓kJ_s, ↓kN_s, ↓kO_s, ↓kZ_s, ↓kE_s, oW_some, px_arr_s, nI_10f, ↓bk_12011, ↓pn_i12011, ↓Sg_2005, ↓Sg_12059, ↓kp_12011_25, ↓kp_12011_30, eq_true hc0, hc1, eq_true hc2, hc3, hc4, hc5, eq_true hc6, hc7, eq_false hc8]
      exact hs
def Sg_12061 (g : px_M → Nat → Int32 → Int32 → Option (Int32)) : px_S := fun av σ k => px_r1 av (fun x0 av => px_i1 av (fun x1 av => px_i1 av (fun x2 av => av = [] ∧ oW (g σ x0 x1 x2) (fun r => k (some (.inl r)) σ))))
/-- NoThree.reasonAgainstWall(II)I -/
noncomputable def f_12061 (tab : px_T) (σ : px_M) (x0 : Nat) (x1 : Int32) (x2 : Int32) : Option (Int32) := gd (px_obj (px_lay tab x0) 12) ((((σ).2.2 x0 0)).bind fun n1 => gd (px_obj (px_lay tab n1) 1) ((((σ).2.2 n1 0)).bind fun n2 => gd (px_obj (px_lay tab n2) 11) ((f_11003 tab σ n2 x1 x2).bind fun r3 => bn (r3 = nI 0) ((f_11006 tab σ n2 x1 x2).bind fun r4 => if r4 = nI 0 then (some ((nI 5))) else (some ((nI 0)))) (some ((nI 1))))))
set_option maxHeartbeats 4000000 in
set_option maxRecDepth 100000 in
theorem mf_12061 {tab : px_T} (hn : px_nd tab) {h : Nat} (hh : 3 ≤ h) : px_Ok tab pn_i12061 h (Sg_12061 (f_12061 tab)) := by
  refine px_mth hn (by decide +kernel) (fun av σ k hS => ?_) (fun C hT hC av σ k hS => ?_)
  · obtain ⟨x0, av0, e0, h0⟩ := px_r1_spec hS
    obtain ⟨x1, av1, e1, h1⟩ := px_i1_spec h0
    obtain ⟨x2, av2, e2, h2⟩ := px_i1_spec h1
    obtain ⟨ez, hs⟩ := h2
    subst ez
    subst e2
    subst e1
    subst e0
    exact Nat.le_of_ble_eq_true rfl
  · obtain ⟨x0, av0, e0, h0⟩ := px_r1_spec hS
    obtain ⟨x1, av1, e1, h1⟩ := px_i1_spec h0
    obtain ⟨x2, av2, e2, h2⟩ := px_i1_spec h1
    obtain ⟨ez, hs⟩ := h2
    subst ez
    subst e2
    subst e1
    subst e0
    subst hT
    refine px_runG (h - 1) ck_12061 [(11003, Sg_11003 (f_11003 (px_tb C))), (11006, Sg_11006 (f_11006 (px_tb C)))] [] 80 hC (px_sp1 (mf_11003 hn (by omega)) (px_sp1 (mf_11006 hn (by omega)) px_nosp)) (by omega) px_nocut (fun G Jf hG hJf => ?_)
    unfold f_12061 at hs
    obtain ⟨hc0, hs⟩ := oW_gx hs
    obtain ⟨n1, hc1, hs⟩ := oW_bx hs
    obtain ⟨hc2, hs⟩ := oW_gx hs
    obtain ⟨n2, hc3, hs⟩ := oW_bx hs
    obtain ⟨hc4, hs⟩ := oW_gx hs
    obtain ⟨r3, hc5, hs⟩ := oW_bx hs
    by_cases hc6 : r3 = nI 0
    · replace hs := bW_t hs hc6
      simp only [↓hG, ↓hJf, ↓px_vc, ↓px_ex, ↓px_jp, ↓px_gi, ↓px_gl, ↓px_gr, ↓px_s1, ↓px_s2, ↓px_nl, ↓px_i1, ↓px_l1, ↓px_r1_o, ↓px_q1, ↓px_i2, ↓px_l2, ↓px_il, ↓px_d0, ↓px_d1, ↓px_d2, ↓px_pop, px_sz, ↓px_sp, ↓px_rd, ↓px_rf, ↓pn_xf, ↓px_pt, ↓px_rok, ↓px_rv_o, ↓px_fill, ↓px_sl, ↓px_sw, ↓pn_SW, lc_lt, lc_ge, lc_gt, lc_le, lc_eq, ↓reduceIte, Nat.reduceEqDiff, Nat.reduceLeDiff, Nat.reduceAdd, Nat.reduceSub, reduceCtorEq, List.length_cons, List.length_nil, Option.toList_some, Option.toList_none, List.cons_append, List.nil_append, true_and, and_true, false_and, and_false, true_or, or_true, false_or, or_false, and_self, or_self, not_false_eq_true, not_true_eq_false, false_implies, forall_const, true_implies, eq_self, ↓kI_s, ↓kJ_s, ↓kN_s, ↓kO_s, ↓kZ_s, ↓kE_s, oW_some, px_arr_s, nI_10f, ↓bk_12061, ↓pn_i12061, ↓Sg_11003, ↓Sg_11006, eq_true hc0, hc1, eq_true hc2, hc3, eq_true hc4, hc5, eq_true hc6]
      rw [oW_some] at hs
      exact hs
    · replace hs := bW_f hs hc6
      obtain ⟨r4, hc7, hs⟩ := oW_bx hs
      by_cases hc8 : r4 = nI 0
      · replace hs := oW_t hs hc8
        simp only [↓hG, ↓hJf, ↓px_vc, ↓px_ex, ↓px_jp, ↓px_gi, ↓px_gl, ↓px_gr, ↓px_s1, ↓px_s2, ↓px_nl, ↓px_i1, ↓px_l1, ↓px_r1_o, ↓px_q1, ↓px_i2, ↓px_l2, ↓px_il, ↓px_d0, ↓px_d1, ↓px_d2, ↓px_pop, px_sz, ↓px_sp, ↓px_rd, ↓px_rf, ↓pn_xf, ↓px_pt, ↓px_rok, ↓px_rv_o, ↓px_fill, ↓px_sl, ↓px_sw, ↓pn_SW, lc_lt, lc_ge, lc_gt, lc_le, lc_eq, ↓reduceIte, Nat.reduceEqDiff, Nat.reduceLeDiff, Nat.reduceAdd, Nat.reduceSub, reduceCtorEq, List.length_cons, List.length_nil, Option.toList_some, Option.toList_none, List.cons_append, List.nil_append, true_and, and_true, false_and, and_false, true_or, or_true, false_or, or_false, and_self, or_self, not_false_eq_true, not_true_eq_false, false_implies, forall_const, true_implies, eq_self, ↓kI_s, ↓kJ_s, ↓kN_s, ↓kO_s, ↓kZ_s, ↓kE_s, oW_some, px_arr_s, nI_10f, ↓bk_12061, ↓pn_i12061, ↓Sg_11003, ↓Sg_11006, eq_true hc0, hc1, eq_true hc2, hc3, eq_true hc4, hc5, eq_false hc6, hc7, eq_true hc8]
        rw [oW_some] at hs
        exact hs
      · replace hs := oW_f hs hc8
        simp only [↓hG, ↓hJf, ↓px_vc, ↓px_ex, ↓px_jp, ↓px_gi, ↓px_gl, ↓px_gr, ↓px_s1, ↓px_s2, ↓px_nl, ↓px_i1, ↓px_l1, ↓px_r1_o, ↓px_q1, ↓px_i2, ↓px_l2, ↓px_il, ↓px_d0, ↓px_d1, ↓px_d2, ↓px_pop, px_sz, ↓px_sp, ↓px_rd, ↓px_rf, ↓pn_xf, ↓px_pt, ↓px_rok, ↓px_rv_o, ↓px_fill, ↓px_sl, ↓px_sw, ↓pn_SW, lc_lt, lc_ge, lc_gt, lc_le, lc_eq, ↓reduceIte, Nat.reduceEqDiff, Nat.reduceLeDiff, Nat.reduceAdd, Nat.reduceSub, reduceCtorEq, List.length_cons, List.length_nil, Option.toList_some, Option.toList_none, List.cons_append, List.nil_append, true_and, and_true, false_and, and_false, true_or, or_true, false_or, or_false, and_self, or_self, not_false_eq_true, not_true_eq_false, false_implies, forall_const, true_implies, eq_self, ↓kI_s, ↓kJ_s, ↓kN_s, ↓kO_s, ↓kZ_s, ↓kE_s, oW_some, px_arr_s, nI_10f, ↓bk_12061, ↓pn_i12061, ↓Sg_11003, ↓Sg_11006, eq_true hc0, hc1, eq_true hc2, hc3, eq_true hc4, hc5, eq_false hc6, hc7, eq_false hc8]
        rw [oW_some] at hs
        exact hs
def Sg_12012 (g : px_M → Nat → Int32 → Int32 → Option (Int32 × px_M)) : px_S := fun av σ k => px_r1 av (fun x0 av => px_i1 av (fun x1 av => px_i1 av (fun x2 av => av = [] ∧ oW (g σ x0 x1 x2) (fun q => k (some (.inl q.1)) q.2))))
/-- NoThree.wall(II)I -/
noncomputable def f_12012_35 (tab : px_T) (σ : px_M) (x0 : Nat) : Option (Int32 × px_M) := gd (px_obj (px_lay tab x0) 12) ((((σ).2.2 x0 0)).bind fun n1 => gd (px_obj (px_lay tab n1) 1) ((((σ).2.2 n1 0)).bind fun n2 => gd (px_obj (px_lay tab n2) 11) ((f_11015 tab σ n2).bind fun r3 => some ((r3, σ)))))
noncomputable def f_12012 (tab : px_T) (σ : px_M) (x0 : Nat) (x1 : Int32) (x2 : Int32) : Option (Int32 × px_M) := gd (px_obj (px_lay tab x0) 12) ((f_12061 tab σ x0 x1 x2).bind fun r1 => if r1 = nI 0 then ((((σ).2.2 x0 0)).bind fun n2 => gd (px_obj (px_lay tab n2) 1) ((f_1004 tab σ n2).bind fun q3 => (((q3).2.2 x0 0)).bind fun n4 => gd (px_obj (px_lay tab n4) 1) ((((q3).2.2 n4 0)).bind fun n5 => gd (px_obj (px_lay tab n5) 11) ((f_11010 tab q3 n5 x1 x2).bind fun q6 => f_12012_35 tab q6 x0)))) else (some ((((-10) - r1), σ))))
def kp_12012_35 (Q : Nat → px_M → Prop) : px_P := fun ls st τ => st = [] ∧ kN ls (fun x0 ls => kZ ls (fun ls => kZ ls (fun ls => kZ ls (fun ls => kE ls (Q x0 τ)))))
theorem kq_12012_35 {C : px_C} {k : Option px_V → px_M → Prop} {Q : Nat → px_M → Prop} (H : ∀ (x0 : Nat) (τ : px_M), Q x0 τ → ∀ (z1 : Option px_V) (z2 : Option px_V) (z3 : Option px_V), px_W C k 35 [some (.inr (.inr (some x0))), z1, z2, z3] [] τ) : ∀ ls st τ, kp_12012_35 Q ls st τ → px_W C k 35 ls st τ := by
  intro ls st τ hz
  obtain ⟨ez, h0⟩ := hz
  obtain ⟨x0, l0, e0, h1⟩ := kN_sp h0
  obtain ⟨z1, l1, e1, h2⟩ := kZ_sp h1
  obtain ⟨z2, l2, e2, h3⟩ := kZ_sp h2
  obtain ⟨z3, l3, e3, h4⟩ := kZ_sp h3
  obtain ⟨ey, hy⟩ := kE_sp h4
  subst ez
  subst ey
  subst e3
  subst e2
  subst e1
  subst e0
  exact H x0 τ hy z1 z2 z3
set_option maxHeartbeats 4000000 in
set_option maxRecDepth 100000 in
theorem rl_12012_35 {C : px_C} (hn : px_nd (px_tb C)) {h : Nat} (hh : 4 ≤ h) (hC : px_ok C pn_i12012 h) {k : Option px_V → px_M → Prop} {x0 : Nat} {σ : px_M} (hs : oW (f_12012_35 (px_tb C) σ x0) (fun q => k (some (.inl q.1)) q.2)) : ∀ (z1 : Option px_V) (z2 : Option px_V) (z3 : Option px_V), px_W C k 35 [some (.inr (.inr (some x0))), z1, z2, z3] [] σ := by
  intro z1 z2 z3
  refine px_runG (h - 1) ck_12012 [(11015, Sg_11015 (f_11015 (px_tb C)))] [] 80 hC (px_sp1 (mf_11015 hn (by omega)) px_nosp) (by omega) px_nocut (fun G Jf hG hJf => ?_)
  unfold f_12012_35 at hs
  obtain ⟨hc0, hs⟩ := oW_gx hs
  obtain ⟨n1, hc1, hs⟩ := oW_bx hs
  obtain ⟨hc2, hs⟩ := oW_gx hs
  obtain ⟨n2, hc3, hs⟩ := oW_bx hs
  obtain ⟨hc4, hs⟩ := oW_gx hs
  obtain ⟨r3, hc5, hs⟩ := oW_bx hs
  simp only [↓hG, ↓hJf, ↓px_vc, ↓px_ex, ↓px_jp, ↓px_gi, ↓px_gl, ↓px_gr, ↓px_s1, ↓px_s2, ↓px_nl, ↓px_i1, ↓px_l1, ↓px_r1_o, ↓px_q1, ↓px_i2, ↓px_l2, ↓px_il, ↓px_d0, ↓px_d1, ↓px_d2, ↓px_pop, px_sz, ↓px_sp, ↓px_rd, ↓px_rf, ↓pn_xf, ↓px_pt, ↓px_rok, ↓px_rv_o, ↓px_fill, ↓px_sl, ↓px_sw, ↓pn_SW, lc_lt, lc_ge, lc_gt, lc_le, lc_eq, ↓reduceIte, Nat.reduceEqDiff, Nat.reduceLeDiff, Nat.reduceAdd, Nat.reduceSub, reduceCtorEq, List.length_cons, List.length_nil, Option.toList_some, Option.toList_none, List.cons_append, List.nil_append, true_and, and_true, false_and, and_false, true_or, or_true, false_or, or_false, and_self, or_self, not_false_eq_true, not_true_eq_false, false_implies, forall_const, true_implies, eq_self, ↓kI_s, ↓kJ_s, ↓kN_s, ↓kO_s, ↓kZ_s, ↓kE_s, oW_some, px_arr_s, nI_10f, ↓bk_12012, ↓pn_i12012, ↓Sg_11015, eq_true hc0, hc1, eq_true hc2, hc3, eq_true hc4, hc5]
  rw [oW_some] at hs
  exact hs
set_option maxHeartbeats 4000000 in
set_option maxRecDepth 100000 in
theorem mf_12012 {tab : px_T} (hn : px_nd tab) {h : Nat} (hh : 4 ≤ h) : px_Ok tab pn_i12012 h (Sg_12012 (f_12012 tab)) := by
  refine px_mth hn (by decide +kernel) (fun av σ k hS => ?_) (fun C hT hC av σ k hS => ?_)
  · obtain ⟨x0, av0, e0, h0⟩ := px_r1_spec hS
    obtain ⟨x1, av1, e1, h1⟩ := px_i1_spec h0
    obtain ⟨x2, av2, e2, h2⟩ := px_i1_spec h1
    obtain ⟨ez, hs⟩ := h2
    subst ez
    subst e2
    subst e1
    subst e0
    exact Nat.le_of_ble_eq_true rfl
  · obtain ⟨x0, av0, e0, h0⟩ := px_r1_spec hS
    obtain ⟨x1, av1, e1, h1⟩ := px_i1_spec h0
    obtain ⟨x2, av2, e2, h2⟩ := px_i1_spec h1
    obtain ⟨ez, hs⟩ := h2
    subst ez
    subst e2
    subst e1
    subst e0
    subst hT
    refine px_runG (h - 1) ck_12012 [(1004, Sg_1004 (f_1004 (px_tb C))), (11010, Sg_11010 (f_11010 (px_tb C))), (12061, Sg_12061 (f_12061 (px_tb C)))] [(35, kp_12012_35 (fun y0 τ => oW (f_12012_35 (px_tb C) τ y0) (fun q => k (some (.inl q.1)) q.2)))] 80 hC (px_sp1 (mf_1004 hn (by omega)) (px_sp1 (mf_11010 hn (by omega)) (px_sp1 (mf_12061 hn (by omega)) px_nosp))) (by omega) (px_cut1 (kq_12012_35 (fun y0 τ hq => by exact rl_12012_35 hn (by omega) hC  hq)) px_nocut) (fun G Jf hG hJf => ?_)
    unfold f_12012 at hs
    obtain ⟨hc0, hs⟩ := oW_gx hs
    obtain ⟨r1, hc1, hs⟩ := oW_bx hs
    by_cases hc2 : r1 = nI 0
    · replace hs := oW_t hs hc2
      obtain ⟨n2, hc3, hs⟩ := oW_bx hs
      obtain ⟨hc4, hs⟩ := oW_gx hs
      obtain ⟨q3, hc5, hs⟩ := oW_bx hs
      obtain ⟨n4, hc6, hs⟩ := oW_bx hs
      obtain ⟨hc7, hs⟩ := oW_gx hs
      obtain ⟨n5, hc8, hs⟩ := oW_bx hs
      obtain ⟨hc9, hs⟩ := oW_gx hs
      obtain ⟨q6, hc10, hs⟩ := oW_bx hs
      simp only [↓hG, ↓hJf, ↓px_vc, ↓px_ex, ↓px_jp, ↓px_gi, ↓px_gl, ↓px_gr, ↓px_s1, ↓px_s2, ↓px_nl, ↓px_i1, ↓px_l1, ↓px_r1_o, ↓px_q1, ↓px_i2, ↓px_l2, ↓px_il, ↓px_d0, ↓px_d1, ↓px_d2, ↓px_pop, px_sz, ↓px_sp, ↓px_rd, ↓px_rf, ↓pn_xf, ↓px_pt, ↓px_rok, ↓px_rv_o, ↓px_fill, ↓px_sl, ↓px_sw, ↓pn_SW, lc_lt, lc_ge, lc_gt, lc_le, lc_eq, ↓reduceIte, Nat.reduceEqDiff, Nat.reduceLeDiff, Nat.reduceAdd, Nat.reduceSub, reduceCtorEq, List.length_cons, List.length_nil, Option.toList_some, Option.toList_none, List.cons_append, List.nil_append, true_and, and_true, false_and, and_false, true_or, or_true, false_or, or_false, and_self, or_self, not_false_eq_true, not_true_eq_false, false_implies, forall_const, true_implies, eq_self, ↓kI_s, ↓kJ_s, ↓kN_s, ↓kO_s, ↓kZ_s, ↓kE_s, oW_some, px_arr_s, nI_10f, ↓bk_12012, ↓pn_i12012, ↓Sg_1004, ↓Sg_11010, ↓Sg_12061, ↓kp_12012_35, eq_true hc0, hc1, eq_true hc2, hc3, eq_true hc4, hc5, hc6, eq_true hc7, hc8, eq_true hc9, hc10]
      exact hs
    · replace hs := oW_f hs hc2
      simp only [↓hG, ↓hJf, ↓px_vc, ↓px_ex, ↓px_jp, ↓px_gi, ↓px_gl, ↓px_gr, ↓px_s1, ↓px_s2, ↓px_nl, ↓px_i1, ↓px_l1, ↓px_r1_o, ↓px_q1, ↓px_i2, ↓px_l2, ↓px_il, ↓px_d0, ↓px_d1, ↓px_d2, ↓px_pop, px_sz, ↓px_sp, ↓px_rd, ↓px_rf, ↓pn_xf, ↓px_pt, ↓px_rok, ↓px_rv_o, ↓px_fill, ↓px_sl, ↓px_sw, ↓pn_SW, lc_lt, lc_ge, lc_gt, lc_le, lc_eq, ↓reduceIte, Nat.reduceEqDiff, Nat.reduceLeDiff, Nat.reduceAdd, Nat.reduceSub, reduceCtorEq, List.length_cons, List.length_nil, Option.toList_some, Option.toList_none, List.cons_append, List.nil_append, true_and, and_true, false_and, and_false, true_or, or_true, false_or, or_false, and_self, or_self, not_false_eq_true, not_true_eq_false, false_implies, forall_const, true_implies, eq_self, ↓kI_s, ↓kJ_s, ↓kN_s, ↓kO_s, ↓kZ_s, ↓kE_s, oW_some, px_arr_s, nI_10f, ↓bk_12012, ↓pn_i12012, ↓Sg_1004, ↓Sg_11010, ↓Sg_12061, ↓kp_12012_35, eq_true hc0, hc1, eq_false hc2]
      rw [oW_some] at hs
      exact hs
def Sg_12013 (g : px_M → Nat → Int32 → Option (Int32 × px_M)) : px_S := fun av σ k => px_r1 av (fun x0 av => px_i1 av (fun x1 av => av = [] ∧ oW (g σ x0 x1) (fun q => k (some (.inl q.1)) q.2)))
/-- NoThree.may(I)I -/
noncomputable def F_12013_32 (tab : px_T) (x0 : Nat) (x1 : Int32) (x2 : Int32) (x3 : Int32) (σ : px_M) : Option ((Int32 × Int32 × px_M) ⊕ (Int32 × px_M)) := gd (px_obj (px_lay tab x0) 12) ((((σ).2.2 x0 0)).bind fun n1 => gd (px_obj (px_lay tab n1) 1) ((((σ).2.2 n1 0)).bind fun n2 => gd (px_obj (px_lay tab n2) 11) (if ((σ).1 n2 0) ≤ x3 then (some (.inr ((x2, σ)))) else ((((σ).2.2 x0 9)).bind fun n3 => gd (px_obj (px_lay tab n3) 2) ((f_2005 tab σ n3 x1 x3).bind fun q4 => bn (q4.1 = nI 0) (some (.inl ((x2, (x3 + (nI 1)), q4.2)))) (some (.inl (((x2 ||| ((nI 1) <<< (x3 &&& 31))), (x3 + (nI 1)), q4.2)))))))))
noncomputable def f_12013_32 (tab : px_T) (x0 : Nat) (x1 : Int32) (x2 : Int32) (x3 : Int32) (σ : px_M) : Option (Int32 × px_M) := lpO (fun s : Int32 × Int32 × px_M => F_12013_32 tab x0 x1 s.1 s.2.1 s.2.2) (x2, x3, σ)
theorem f_12013_32_eq (tab : px_T) (x0 : Nat) (x1 : Int32) (x2 : Int32) (x3 : Int32) (σ : px_M) : f_12013_32 tab x0 x1 x2 x3 σ = (F_12013_32 tab x0 x1 x2 x3 σ).bind (Sum.elim (fun s => f_12013_32 tab x0 x1 s.1 s.2.1 s.2.2) some) := lpO_eq _ _
noncomputable def f_12013 (tab : px_T) (σ : px_M) (x0 : Nat) (x1 : Int32) : Option (Int32 × px_M) := gd (px_obj (px_lay tab x0) 12) ((((σ).2.2 x0 0)).bind fun n1 => gd (px_obj (px_lay tab n1) 1) ((((σ).2.2 n1 0)).bind fun n2 => gd (px_obj (px_lay tab n2) 11) ((f_11002 tab σ n2 x1).bind fun r3 => bn (r3 = nI 0) ((f_12059 tab σ x0 n2).bind fun q4 => f_12013_32 tab x0 x1 ((nI 0)) ((nI 0)) q4) (some (((-2), σ))))))
def kp_12013_32 (Q : Nat → Int32 → Int32 → Int32 → px_M → Prop) : px_P := fun ls st τ => st = [] ∧ kN ls (fun x0 ls => kI ls (fun x1 ls => kI ls (fun x2 ls => kI ls (fun x3 ls => kE ls (Q x0 x1 x2 x3 τ)))))
theorem kq_12013_32 {C : px_C} {k : Option px_V → px_M → Prop} {Q : Nat → Int32 → Int32 → Int32 → px_M → Prop} (H : ∀ (x0 : Nat) (x1 : Int32) (x2 : Int32) (x3 : Int32) (τ : px_M), Q x0 x1 x2 x3 τ → px_W C k 32 [some (.inr (.inr (some x0))), some (.inl x1), some (.inl x2), some (.inl x3)] [] τ) : ∀ ls st τ, kp_12013_32 Q ls st τ → px_W C k 32 ls st τ := by
  intro ls st τ hz
  obtain ⟨ez, h0⟩ := hz
  obtain ⟨x0, l0, e0, h1⟩ := kN_sp h0
  obtain ⟨x1, l1, e1, h2⟩ := kI_sp h1
  obtain ⟨x2, l2, e2, h3⟩ := kI_sp h2
  obtain ⟨x3, l3, e3, h4⟩ := kI_sp h3
  obtain ⟨ey, hy⟩ := kE_sp h4
  subst ez
  subst ey
  subst e3
  subst e2
  subst e1
  subst e0
  exact H x0 x1 x2 x3 τ hy
set_option maxHeartbeats 4000000 in
set_option maxRecDepth 100000 in
theorem rl_12013_32 {C : px_C} (hn : px_nd (px_tb C)) {h : Nat} (hh : 31 ≤ h) (hC : px_ok C pn_i12013 h) {k : Option px_V → px_M → Prop} {x0 : Nat} {x1 : Int32} : ∀ s : Int32 × Int32 × px_M, oW (f_12013_32 (px_tb C) x0 x1 s.1 s.2.1 s.2.2) (fun q => k (some (.inl q.1)) q.2) → (fun s : Int32 × Int32 × px_M => px_W C k 32 [some (.inr (.inr (some x0))), some (.inl x1), some (.inl s.1), some (.inl s.2.1)] [] s.2.2) s := by
  intro s h0
  refine lpO_sound (P := (fun s : Int32 × Int32 × px_M => px_W C k 32 [some (.inr (.inr (some x0))), some (.inl x1), some (.inl s.1), some (.inl s.2.1)] [] s.2.2)) (fun s hs => ?_) h0
  obtain ⟨x2, x3, σ⟩ := s
  refine px_runG (h - 1) ck_12013 [(2005, Sg_2005 (f_2005 (px_tb C)))] [(32, kp_12013_32 (fun y0 y1 y2 y3 τ => y0 = x0 ∧ y1 = x1 ∧ (fun s : Int32 × Int32 × px_M => px_W C k 32 [some (.inr (.inr (some x0))), some (.inl x1), some (.inl s.1), some (.inl s.2.1)] [] s.2.2) (y2, y3, τ)))] 80 hC (px_sp1 (mf_2005 hn (by omega)) px_nosp) (by omega) (px_cut1 (kq_12013_32 (fun y0 y1 y2 y3 τ hq => by obtain ⟨rfl, rfl, hq⟩ := hq; exact hq)) px_nocut) (fun G Jf hG hJf => ?_)
  replace hs : oW (F_12013_32 (px_tb C) x0 x1 x2 x3 σ) _ := hs
  unfold F_12013_32 at hs
  obtain ⟨hc0, hs⟩ := oW_gx hs
  obtain ⟨n1, hc1, hs⟩ := oW_bx hs
  obtain ⟨hc2, hs⟩ := oW_gx hs
  obtain ⟨n2, hc3, hs⟩ := oW_bx hs
  obtain ⟨hc4, hs⟩ := oW_gx hs
  by_cases hc5 : ((σ).1 n2 0) ≤ x3
  · replace hs := oW_t hs hc5
    simp only [↓hG, ↓hJf, ↓px_vc, ↓px_ex, ↓px_jp, ↓px_gi, ↓px_gl, ↓px_gr, ↓px_s1, ↓px_s2, ↓px_nl, ↓px_i1, ↓px_l1, ↓px_r1_o, ↓px_q1, ↓px_i2, ↓px_l2, ↓px_il, ↓px_d0, ↓px_d1, ↓px_d2, ↓px_pop, px_sz, ↓px_sp, ↓px_rd, ↓px_rf, ↓pn_xf, ↓px_pt, ↓px_rok, ↓px_rv_o, ↓px_fill, ↓px_sl, ↓px_sw, ↓pn_SW, lc_lt, lc_ge, lc_gt, lc_le, lc_eq, ↓reduceIte, Nat.reduceEqDiff, Nat.reduceLeDiff, Nat.reduceAdd, Nat.reduceSub, reduceCtorEq, List.length_cons, List.length_nil, Option.toList_some, Option.toList_none, List.cons_append, List.nil_append, true_and, and_true, false_and, and_false, true_or, or_true, false_or, or_false, and_self, or_self, not_false_eq_true, not_true_eq_false, false_implies, forall_const, true_implies, eq_self, ↓kI_s, ↓kJ_s, ↓kN_s, ↓kO_s, ↓kZ_s, ↓kE_s, oW_some, px_arr_s, nI_10f, ↓bk_12013, ↓pn_i12013, ↓Sg_2005, ↓kp_12013_32, eq_true hc0, hc1, eq_true hc2, hc3, eq_true hc4, eq_true hc5]
    rw [oW_some] at hs
    exact hs
  · replace hs := oW_f hs hc5
    obtain ⟨n3, hc6, hs⟩ := oW_bx hs
    obtain ⟨hc7, hs⟩ := oW_gx hs
    obtain ⟨q4, hc8, hs⟩ := oW_bx hs
    by_cases hc9 : q4.1 = nI 0
    · replace hs := bW_t hs hc9
      simp only [↓hG, ↓hJf, ↓px_vc, ↓px_ex, ↓px_jp, ↓px_gi, ↓px_gl, ↓px_gr, ↓px_s1, ↓px_s2, ↓px_nl, ↓px_i1, ↓px_l1, ↓px_r1_o, ↓px_q1, ↓px_i2, ↓px_l2, ↓px_il, ↓px_d0, ↓px_d1, ↓px_d2, ↓px_pop, px_sz, ↓px_sp, ↓px_rd, ↓px_rf, ↓pn_xf, ↓px_pt, ↓px_rok, ↓px_rv_o, ↓px_fill, ↓px_sl, ↓px_sw, ↓pn_SW, lc_lt, lc_ge, lc_gt, lc_le, lc_eq, ↓reduceIte, Nat.reduceEqDiff, Nat.reduceLeDiff, Nat.reduceAdd, Nat.reduceSub, reduceCtorEq, List.length_cons, List.length_nil, Option.toList_some, Option.toList_none, List.cons_append, List.nil_append, true_and, and_true, false_and, and_false, true_or, or_true, false_or, or_false, and_self, or_self, not_false_eq_true, not_true_eq_false, false_implies, forall_const, true_implies, eq_self, ↓kI_s, ↓kJ_s, ↓kN_s, ↓kO_s, ↓kZ_s, ↓kE_s, oW_some, px_arr_s, nI_10f, ↓bk_12013, ↓pn_i12013, ↓Sg_2005, ↓kp_12013_32, eq_true hc0, hc1, eq_true hc2, hc3, eq_true hc4, eq_false hc5, hc6, eq_true hc7, hc8, eq_true hc9]
      rw [oW_some] at hs
      exact hs
    · replace hs := bW_f hs hc9
      simp only [↓hG, ↓hJf, ↓px_vc, ↓px_ex, ↓px_jp, ↓px_gi, ↓px_gl, ↓px_gr, ↓px_s1, ↓px_s2, ↓px_nl, ↓px_i1, ↓px_l1, ↓px_r1_o, ↓px_q1, ↓px_i2, ↓px_l2, ↓px_il, ↓px_d0, ↓px_d1, ↓px_d2, ↓px_pop, px_sz, ↓px_sp, ↓px_rd, ↓px_rf, ↓pn_xf, ↓px_pt, ↓px_rok, ↓px_rv_o, ↓px_fill, ↓px_sl, ↓px_sw, ↓pn_SW, lc_lt, lc_ge, lc_gt, lc_le, lc_eq, ↓reduceIte, Nat.reduceEqDiff, Nat.reduceLeDiff, Nat.reduceAdd, Nat.reduceSub, reduceCtorEq, List.length_cons, List.length_nil, Option.toList_some, Option.toList_none, List.cons_append, List.nil_append, true_and, and_true, false_and, and_false, true_or, or_true, false_or, or_false, and_self, or_self, not_false_eq_true, not_true_eq_false, false_implies, forall_const, true_implies, eq_self, ↓kI_s, ↓kJ_s, ↓kN_s, ↓kO_s, ↓kZ_s, ↓kE_s, oW_some, px_arr_s, nI_10f, ↓bk_12013, ↓pn_i12013, ↓Sg_2005, ↓kp_12013_32, eq_true hc0, hc1, eq_true hc2, hc3, eq_true hc4, eq_false hc5, hc6, eq_true hc7, hc8, eq_false hc9]
      rw [oW_some] at hs
      exact hs
set_option maxHeartbeats 4000000 in
set_option maxRecDepth 100000 in
theorem mf_12013 {tab : px_T} (hn : px_nd tab) {h : Nat} (hh : 31 ≤ h) : px_Ok tab pn_i12013 h (Sg_12013 (f_12013 tab)) := by
  refine px_mth hn (by decide +kernel) (fun av σ k hS => ?_) (fun C hT hC av σ k hS => ?_)
  · obtain ⟨x0, av0, e0, h0⟩ := px_r1_spec hS
    obtain ⟨x1, av1, e1, h1⟩ := px_i1_spec h0
    obtain ⟨ez, hs⟩ := h1
    subst ez
    subst e1
    subst e0
    exact Nat.le_of_ble_eq_true rfl
  · obtain ⟨x0, av0, e0, h0⟩ := px_r1_spec hS
    obtain ⟨x1, av1, e1, h1⟩ := px_i1_spec h0
    obtain ⟨ez, hs⟩ := h1
    subst ez
    subst e1
    subst e0
    subst hT
    refine px_runG (h - 1) ck_12013 [(11002, Sg_11002 (f_11002 (px_tb C))), (12059, Sg_12059 (f_12059 (px_tb C)))] [(32, kp_12013_32 (fun y0 y1 y2 y3 τ => oW (f_12013_32 (px_tb C) y0 y1 y2 y3 τ) (fun q => k (some (.inl q.1)) q.2)))] 80 hC (px_sp1 (mf_11002 hn (by omega)) (px_sp1 (mf_12059 hn (by omega)) px_nosp)) (by omega) (px_cut1 (kq_12013_32 (fun y0 y1 y2 y3 τ hq => by exact rl_12013_32 hn (by omega) hC (y2, y3, τ) hq)) px_nocut) (fun G Jf hG hJf => ?_)
    unfold f_12013 at hs
    obtain ⟨hc0, hs⟩ := oW_gx hs
    obtain ⟨n1, hc1, hs⟩ := oW_bx hs
    obtain ⟨hc2, hs⟩ := oW_gx hs
    obtain ⟨n2, hc3, hs⟩ := oW_bx hs
    obtain ⟨hc4, hs⟩ := oW_gx hs
    obtain ⟨r3, hc5, hs⟩ := oW_bx hs
    by_cases hc6 : r3 = nI 0
    · replace hs := bW_t hs hc6
      simp only [↓hG, ↓hJf, ↓px_vc, ↓px_ex, ↓px_jp, ↓px_gi, ↓px_gl, ↓px_gr, ↓px_s1, ↓px_s2, ↓px_nl, ↓px_i1, ↓px_l1, ↓px_r1_o, ↓px_q1, ↓px_i2, ↓px_l2, ↓px_il, ↓px_d0, ↓px_d1, ↓px_d2, ↓px_pop, px_sz, ↓px_sp, ↓px_rd, ↓px_rf, ↓pn_xf, ↓px_pt, ↓px_rok, ↓px_rv_o, ↓px_fill, ↓px_sl, ↓px_sw, ↓pn_SW, lc_lt, lc_ge, lc_gt, lc_le, lc_eq, ↓reduceIte, Nat.reduceEqDiff, Nat.reduceLeDiff, Nat.reduceAdd, Nat.reduceSub, reduceCtorEq, List.length_cons, List.length_nil, Option.toList_some, Option.toList_none, List.cons_append, List.nil_append, true_and, and_true, false_and, and_false, true_or, or_true, false_or, or_false, and_self, or_self, not_false_eq_true, not_true_eq_false, false_implies, forall_const, true_implies, eq_self, ↓kI_s, ↓kJ_s, ↓kN_s, ↓kO_s, ↓kZ_s, ↓kE_s, oW_some, px_arr_s, nI_10f, ↓bk_12013, ↓pn_i12013, ↓Sg_11002, ↓Sg_12059, ↓kp_12013_32, eq_true hc0, hc1, eq_true hc2, hc3, eq_true hc4, hc5, eq_true hc6]
      rw [oW_some] at hs
      exact hs
    · replace hs := bW_f hs hc6
      obtain ⟨q4, hc7, hs⟩ := oW_bx hs
      simp only [↓hG, ↓hJf, ↓px_vc, ↓px_ex, ↓px_jp, ↓px_gi, ↓px_gl, ↓px_gr, ↓px_s1, ↓px_s2, ↓px_nl, ↓px_i1, ↓px_l1, ↓px_r1_o, ↓px_q1, ↓px_i2, ↓px_l2, ↓px_il, ↓px_d0, ↓px_d1, ↓px_d2, ↓px_pop, px_sz, ↓px_sp, ↓px_rd, ↓px_rf, ↓pn_xf, ↓px_pt, ↓px_rok, ↓px_rv_o, ↓px_fill, ↓px_sl, ↓px_sw, ↓pn_SW, lc_lt, lc_ge, lc_gt, lc_le, lc_eq, ↓reduceIte, Nat.reduceEqDiff, Nat.reduceLeDiff, Nat.reduceAdd, Nat.reduceSub, reduceCtorEq, List.length_cons, List.length_nil, Option.toList_some, Option.toList_none, List.cons_append, List.nil_append, true_and, and_true, false_and, and_false, true_or, or_true, false_or, or_false, and_self, or_self, not_false_eq_true, not_true_eq_false, false_implies, forall_const, true_implies, eq_self, ↓kI_s, ↓kJ_s, ↓kN_s, ↓kO_s, ↓kZ_s, ↓kE_s, oW_some, px_arr_s, nI_10f, ↓bk_12013, ↓pn_i12013, ↓Sg_11002, ↓Sg_12059, ↓kp_12013_32, eq_true hc0, hc1, eq_true hc2, hc3, eq_true hc4, hc5, eq_false hc6, hc7]
      exact hs
def Sg_12060 (g : px_M → Nat → Int32 → Option (px_M)) : px_S := fun av σ k => px_r1 av (fun x0 av => px_i1 av (fun x1 av => av = [] ∧ oW (g σ x0 x1) (fun τ => k none τ)))
/-- NoThree.settle(I)V -/
noncomputable def f_12060 (tab : px_T) (σ : px_M) (x0 : Nat) (x1 : Int32) : Option (px_M) := gd (px_obj (px_lay tab x0) 12) ((((σ).2.2 x0 0)).bind fun n1 => gd (px_obj (px_lay tab n1) 1) ((f_1004 tab σ n1).bind fun q2 => (((q2).2.2 x0 0)).bind fun n3 => gd (px_obj (px_lay tab n3) 1) ((((q2).2.2 n3 0)).bind fun n4 => gd (px_obj (px_lay tab n4) 11) ((f_11011 tab q2 n4 x1).bind fun q5 => some (q5)))))
set_option maxHeartbeats 4000000 in
set_option maxRecDepth 100000 in
theorem mf_12060 {tab : px_T} (hn : px_nd tab) {h : Nat} (hh : 5 ≤ h) : px_Ok tab pn_i12060 h (Sg_12060 (f_12060 tab)) := by
  refine px_mth hn (by decide +kernel) (fun av σ k hS => ?_) (fun C hT hC av σ k hS => ?_)
  · obtain ⟨x0, av0, e0, h0⟩ := px_r1_spec hS
    obtain ⟨x1, av1, e1, h1⟩ := px_i1_spec h0
    obtain ⟨ez, hs⟩ := h1
    subst ez
    subst e1
    subst e0
    exact Nat.le_of_ble_eq_true rfl
  · obtain ⟨x0, av0, e0, h0⟩ := px_r1_spec hS
    obtain ⟨x1, av1, e1, h1⟩ := px_i1_spec h0
    obtain ⟨ez, hs⟩ := h1
    subst ez
    subst e1
    subst e0
    subst hT
    refine px_runG (h - 1) ck_12060 [(1004, Sg_1004 (f_1004 (px_tb C))), (11011, Sg_11011 (f_11011 (px_tb C)))] [] 80 hC (px_sp1 (mf_1004 hn (by omega)) (px_sp1 (mf_11011 hn (by omega)) px_nosp)) (by omega) px_nocut (fun G Jf hG hJf => ?_)
    unfold f_12060 at hs
    obtain ⟨hc0, hs⟩ := oW_gx hs
    obtain ⟨n1, hc1, hs⟩ := oW_bx hs
    obtain ⟨hc2, hs⟩ := oW_gx hs
    obtain ⟨q2, hc3, hs⟩ := oW_bx hs
    obtain ⟨n3, hc4, hs⟩ := oW_bx hs
    obtain ⟨hc5, hs⟩ := oW_gx hs
    obtain ⟨n4, hc6, hs⟩ := oW_bx hs
    obtain ⟨hc7, hs⟩ := oW_gx hs
    obtain ⟨q5, hc8, hs⟩ := oW_bx hs
    simp only [↓hG, ↓hJf, ↓px_vc, ↓px_ex, ↓px_jp, ↓px_gi, ↓px_gl, ↓px_gr, ↓px_s1, ↓px_s2, ↓px_nl, ↓px_i1, ↓px_l1, ↓px_r1_o, ↓px_q1, ↓px_i2, ↓px_l2, ↓px_il, ↓px_d0, ↓px_d1, ↓px_d2, ↓px_pop, px_sz, ↓px_sp, ↓px_rd, ↓px_rf, ↓pn_xf, ↓px_pt, ↓px_rok, ↓px_rv_o, ↓px_fill, ↓px_sl, ↓px_sw, ↓pn_SW, lc_lt, lc_ge, lc_gt, lc_le, lc_eq, ↓reduceIte, Nat.reduceEqDiff, Nat.reduceLeDiff, Nat.reduceAdd, Nat.reduceSub, reduceCtorEq, List.length_cons, List.length_nil, Option.toList_some, Option.toList_none, List.cons_append, List.nil_append, true_and, and_true, false_and, and_false, true_or, or_true, false_or, or_false, and_self, or_self, not_false_eq_true, not_true_eq_false, false_implies, forall_const, true_implies, eq_self, ↓kI_s, ↓kJ_s, ↓kN_s, ↓kO_s, ↓kZ_s, ↓kE_s, oW_some, px_arr_s, nI_10f, ↓bk_12060, ↓pn_i12060, ↓Sg_1004, ↓Sg_11011, eq_true hc0, hc1, eq_true hc2, hc3, hc4, eq_true hc5, hc6, eq_true hc7, hc8]
    rw [oW_some] at hs
    exact hs
def Sg_12014 (g : px_M → Nat → Int32 → Option (Int32 × px_M)) : px_S := fun av σ k => px_r1 av (fun x0 av => px_i1 av (fun x1 av => av = [] ∧ oW (g σ x0 x1) (fun q => k (some (.inl q.1)) q.2)))
/-- NoThree.enter(I)I -/
noncomputable def f_12014_29 (tab : px_T) (σ : px_M) (x0 : Nat) (x1 : Int32) : Option (Int32 × px_M) := gd (px_obj (px_lay tab x0) 12) ((f_12060 tab σ x0 x1).bind fun q1 => (((q1).2.2 x0 0)).bind fun n2 => gd (px_obj (px_lay tab n2) 1) ((((q1).2.2 n2 0)).bind fun n3 => gd (px_obj (px_lay tab n3) 11) (some (((((q1).1 n3 0) - (nI 1)), q1)))))
noncomputable def f_12014_24 (tab : px_T) (σ : px_M) (x2 : Int32) : Option (Int32 × px_M) := some ((((-10) - x2), σ))
noncomputable def f_12014 (tab : px_T) (σ : px_M) (x0 : Nat) (x1 : Int32) : Option (Int32 × px_M) := gd (px_obj (px_lay tab x0) 12) ((((σ).2.2 x0 0)).bind fun n1 => gd (px_obj (px_lay tab n1) 1) ((((σ).2.2 n1 0)).bind fun n2 => (f_12059 tab σ x0 n2).bind fun q3 => (((q3).2.2 x0 9)).bind fun n4 => gd (px_obj (px_lay tab n4) 2) ((f_2006 tab q3 n4 x1).bind fun q5 => if q5.1 = nI 0 then (f_12014_29 tab q5.2 x0 x1) else (f_12014_24 tab q5.2 q5.1))))
def kp_12014_29 (Q : Nat → Int32 → px_M → Prop) : px_P := fun ls st τ => st = [] ∧ kN ls (fun x0 ls => kI ls (fun x1 ls => kZ ls (fun ls => kE ls (Q x0 x1 τ))))
theorem kq_12014_29 {C : px_C} {k : Option px_V → px_M → Prop} {Q : Nat → Int32 → px_M → Prop} (H : ∀ (x0 : Nat) (x1 : Int32) (τ : px_M), Q x0 x1 τ → ∀ (z2 : Option px_V), px_W C k 29 [some (.inr (.inr (some x0))), some (.inl x1), z2] [] τ) : ∀ ls st τ, kp_12014_29 Q ls st τ → px_W C k 29 ls st τ := by
  intro ls st τ hz
  obtain ⟨ez, h0⟩ := hz
  obtain ⟨x0, l0, e0, h1⟩ := kN_sp h0
  obtain ⟨x1, l1, e1, h2⟩ := kI_sp h1
  obtain ⟨z2, l2, e2, h3⟩ := kZ_sp h2
  obtain ⟨ey, hy⟩ := kE_sp h3
  subst ez
  subst ey
  subst e2
  subst e1
  subst e0
  exact H x0 x1 τ hy z2
def kp_12014_24 (Q : Int32 → px_M → Prop) : px_P := fun ls st τ => st = [] ∧ kZ ls (fun ls => kZ ls (fun ls => kI ls (fun x2 ls => kE ls (Q x2 τ))))
theorem kq_12014_24 {C : px_C} {k : Option px_V → px_M → Prop} {Q : Int32 → px_M → Prop} (H : ∀ (x2 : Int32) (τ : px_M), Q x2 τ → ∀ (z0 : Option px_V) (z1 : Option px_V), px_W C k 24 [z0, z1, some (.inl x2)] [] τ) : ∀ ls st τ, kp_12014_24 Q ls st τ → px_W C k 24 ls st τ := by
  intro ls st τ hz
  obtain ⟨ez, h0⟩ := hz
  obtain ⟨z0, l0, e0, h1⟩ := kZ_sp h0
  obtain ⟨z1, l1, e1, h2⟩ := kZ_sp h1
  obtain ⟨x2, l2, e2, h3⟩ := kI_sp h2
  obtain ⟨ey, hy⟩ := kE_sp h3
  subst ez
  subst ey
  subst e2
  subst e1
  subst e0
  exact H x2 τ hy z0 z1
set_option maxHeartbeats 4000000 in
set_option maxRecDepth 100000 in
theorem rl_12014_29 {C : px_C} (hn : px_nd (px_tb C)) {h : Nat} (hh : 31 ≤ h) (hC : px_ok C pn_i12014 h) {k : Option px_V → px_M → Prop} {x0 : Nat} {x1 : Int32} {σ : px_M} (hs : oW (f_12014_29 (px_tb C) σ x0 x1) (fun q => k (some (.inl q.1)) q.2)) : ∀ (z2 : Option px_V), px_W C k 29 [some (.inr (.inr (some x0))), some (.inl x1), z2] [] σ := by
  intro z2
  refine px_runG (h - 1) ck_12014 [(12060, Sg_12060 (f_12060 (px_tb C)))] [] 80 hC (px_sp1 (mf_12060 hn (by omega)) px_nosp) (by omega) px_nocut (fun G Jf hG hJf => ?_)
  unfold f_12014_29 at hs
  obtain ⟨hc0, hs⟩ := oW_gx hs
  obtain ⟨q1, hc1, hs⟩ := oW_bx hs
  obtain ⟨n2, hc2, hs⟩ := oW_bx hs
  obtain ⟨hc3, hs⟩ := oW_gx hs
  obtain ⟨n3, hc4, hs⟩ := oW_bx hs
  obtain ⟨hc5, hs⟩ := oW_gx hs
  simp only [↓hG, ↓hJf, ↓px_vc, ↓px_ex, ↓px_jp, ↓px_gi, ↓px_gl, ↓px_gr, ↓px_s1, ↓px_s2, ↓px_nl, ↓px_i1, ↓px_l1, ↓px_r1_o, ↓px_q1, ↓px_i2, ↓px_l2, ↓px_il, ↓px_d0, ↓px_d1, ↓px_d2, ↓px_pop, px_sz, ↓px_sp, ↓px_rd, ↓px_rf, ↓pn_xf, ↓px_pt, ↓px_rok, ↓px_rv_o, ↓px_fill, ↓px_sl, ↓px_sw, ↓pn_SW, lc_lt, lc_ge, lc_gt, lc_le, lc_eq, ↓reduceIte, Nat.reduceEqDiff, Nat.reduceLeDiff, Nat.reduceAdd, Nat.reduceSub, reduceCtorEq, List.length_cons, List.length_nil, Option.toList_some, Option.toList_none, List.cons_append, List.nil_append, true_and, and_true, false_and, and_false, true_or, or_true, false_or, or_false, and_self, or_self, not_false_eq_true, not_true_eq_false, false_implies, forall_const, true_implies, eq_self, ↓kI_s, ↓kJ_s, ↓kN_s, ↓kO_s, ↓kZ_s, ↓kE_s, oW_some, px_arr_s, nI_10f, ↓bk_12014, ↓pn_i12014, ↓Sg_12060, eq_true hc0, hc1, hc2, eq_true hc3, hc4, eq_true hc5]
  rw [oW_some] at hs
  exact hs
set_option maxHeartbeats 4000000 in
set_option maxRecDepth 100000 in
theorem rl_12014_24 {C : px_C} (hn : px_nd (px_tb C)) {h : Nat} (hh : 31 ≤ h) (hC : px_ok C pn_i12014 h) {k : Option px_V → px_M → Prop} {x2 : Int32} {σ : px_M} (hs : oW (f_12014_24 (px_tb C) σ x2) (fun q => k (some (.inl q.1)) q.2)) : ∀ (z0 : Option px_V) (z1 : Option px_V), px_W C k 24 [z0, z1, some (.inl x2)] [] σ := by
  intro z0 z1
  refine px_runG (h - 1) ck_12014 [] [] 80 hC px_nosp (by omega) px_nocut (fun G Jf hG hJf => ?_)
  unfold f_12014_24 at hs
  simp only [↓hG, ↓hJf, ↓px_vc, ↓px_ex, ↓px_jp, ↓px_gi, ↓px_gl, ↓px_gr, ↓px_s1, ↓px_s2, ↓px_nl, ↓px_i1, ↓px_l1, ↓px_r1_o, ↓px_q1, ↓px_i2, ↓px_l2, ↓px_il, ↓px_d0, ↓px_d1, ↓px_d2, ↓px_pop, px_sz, ↓px_sp, ↓px_rd, ↓px_rf, ↓pn_xf, ↓px_pt, ↓px_rok, ↓px_rv_o, ↓px_fill, ↓px_sl, ↓px_sw, ↓pn_SW, lc_lt, lc_ge, lc_gt, lc_le, lc_eq, ↓reduceIte, Nat.reduceEqDiff, Nat.reduceLeDiff, Nat.reduceAdd, Nat.reduceSub, reduceCtorEq, List.length_cons, List.length_nil, Option.toList_some, Option.toList_none, List.cons_append, List.nil_append, true_and, and_true, false_and, and_false, true_or, or_true, false_or, or_false, and_self, or_self, not_false_eq_true, not_true_eq_false, false_implies, forall_const, true_implies, eq_self, ↓kI_s, ↓kJ_s, ↓kN_s, ↓kO_s, ↓kZ_s, ↓kE_s, oW_some, px_arr_s, nI_10f, ↓bk_12014, ↓pn_i12014]
  rw [oW_some] at hs
  exact hs
set_option maxHeartbeats 4000000 in
set_option maxRecDepth 100000 in
theorem mf_12014 {tab : px_T} (hn : px_nd tab) {h : Nat} (hh : 31 ≤ h) : px_Ok tab pn_i12014 h (Sg_12014 (f_12014 tab)) := by
  refine px_mth hn (by decide +kernel) (fun av σ k hS => ?_) (fun C hT hC av σ k hS => ?_)
  · obtain ⟨x0, av0, e0, h0⟩ := px_r1_spec hS
    obtain ⟨x1, av1, e1, h1⟩ := px_i1_spec h0
    obtain ⟨ez, hs⟩ := h1
    subst ez
    subst e1
    subst e0
    exact Nat.le_of_ble_eq_true rfl
  · obtain ⟨x0, av0, e0, h0⟩ := px_r1_spec hS
    obtain ⟨x1, av1, e1, h1⟩ := px_i1_spec h0
    obtain ⟨ez, hs⟩ := h1
    subst ez
    subst e1
    subst e0
    subst hT
    refine px_runG (h - 1) ck_12014 [(2006, Sg_2006 (f_2006 (px_tb C))), (12059, Sg_12059 (f_12059 (px_tb C)))] [(24, kp_12014_24 (fun y2 τ => oW (f_12014_24 (px_tb C) τ y2) (fun q => k (some (.inl q.1)) q.2))), (29, kp_12014_29 (fun y0 y1 τ => oW (f_12014_29 (px_tb C) τ y0 y1) (fun q => k (some (.inl q.1)) q.2)))] 80 hC (px_sp1 (mf_2006 hn (by omega)) (px_sp1 (mf_12059 hn (by omega)) px_nosp)) (by omega) (px_cut1 (kq_12014_24 (fun y2 τ hq => by exact rl_12014_24 hn (by omega) hC  hq)) (px_cut1 (kq_12014_29 (fun y0 y1 τ hq => by exact rl_12014_29 hn (by omega) hC  hq)) px_nocut)) (fun G Jf hG hJf => ?_)
    unfold f_12014 at hs
    obtain ⟨hc0, hs⟩ := oW_gx hs
    obtain ⟨n1, hc1, hs⟩ := oW_bx hs
    obtain ⟨hc2, hs⟩ := oW_gx hs
    obtain ⟨n2, hc3, hs⟩ := oW_bx hs
    obtain ⟨q3, hc4, hs⟩ := oW_bx hs
    obtain ⟨n4, hc5, hs⟩ := oW_bx hs
    obtain ⟨hc6, hs⟩ := oW_gx hs
    obtain ⟨q5, hc7, hs⟩ := oW_bx hs
    by_cases hc8 : q5.1 = nI 0
    · replace hs := oW_t hs hc8
      simp only [↓hG, ↓hJf, ↓px_vc, ↓px_ex, ↓px_jp, ↓px_gi, ↓px_gl, ↓px_gr, ↓px_s1, ↓px_s2, ↓px_nl, ↓px_i1, ↓px_l1, ↓px_r1_o, ↓px_q1, ↓px_i2, ↓px_l2, ↓px_il, ↓px_d0, ↓px_d1, ↓px_d2, ↓px_pop, px_sz, ↓px_sp, ↓px_rd, ↓px_rf, ↓pn_xf, ↓px_pt, ↓px_rok, ↓px_rv_o, ↓px_fill, ↓px_sl, ↓px_sw, ↓pn_SW, lc_lt, lc_ge, lc_gt, lc_le, lc_eq, ↓reduceIte, Nat.reduceEqDiff, Nat.reduceLeDiff, Nat.reduceAdd, Nat.reduceSub, reduceCtorEq, List.length_cons, List.length_nil, Option.toList_some, Option.toList_none, List.cons_append, List.nil_append, true_and, and_true, false_and, and_false, true_or, or_true, false_or, or_false, and_self, or_self, not_false_eq_true, not_true_eq_false, false_implies, forall_const, true_implies, eq_self, ↓kI_s, ↓kJ_s, ↓kN_s, ↓kO_s, ↓kZ_s, ↓kE_s, oW_some, px_arr_s, nI_10f, ↓bk_12014, ↓pn_i12014, ↓Sg_2006, ↓Sg_12059, ↓kp_12014_24, ↓kp_12014_29, eq_true hc0, hc1, eq_true hc2, hc3, hc4, hc5, eq_true hc6, hc7, eq_true hc8]
      exact hs
    · replace hs := oW_f hs hc8
      simp only [↓hG, ↓hJf, ↓px_vc, ↓px_ex, ↓px_jp, ↓px_gi, ↓px_gl, ↓px_gr, ↓px_s1, ↓px_s2, ↓px_nl, ↓px_i1, ↓px_l1, ↓px_r1_o, ↓px_q1, ↓px_i2, ↓px_l2, ↓px_il, ↓px_d0, ↓px_d1, ↓px_d2, ↓px_pop, px_sz, ↓px_sp, ↓px_rd, ↓px_rf, ↓pn_xf, ↓px_pt, ↓px_rok, ↓px_rv_o, ↓px_fill, ↓px_sl, ↓px_sw, ↓pn_SW, lc_lt, lc_ge, lc_gt, lc_le, lc_eq, ↓reduceIte, Nat.reduceEqDiff, Nat.reduceLeDiff, Nat.reduceAdd, Nat.reduceSub, reduceCtorEq, List.length_cons, List.length_nil, Option.toList_some, Option.toList_none, List.cons_append, List.nil_append, true_and, and_true, false_and, and_false, true_or, or_true, false_or, or_false, and_self, or_self, not_false_eq_true, not_true_eq_false, false_implies, forall_const, true_implies, eq_self, ↓kI_s, ↓kJ_s, ↓kN_s, ↓kO_s, ↓kZ_s, ↓kE_s, oW_some, px_arr_s, nI_10f, ↓bk_12014, ↓pn_i12014, ↓Sg_2006, ↓Sg_12059, ↓kp_12014_24, ↓kp_12014_29, eq_true hc0, hc1, eq_true hc2, hc3, hc4, hc5, eq_true hc6, hc7, eq_false hc8]
      exact hs
def Sg_12015 (g : px_M → Nat → Int32 → Option (Int32 × px_M)) : px_S := fun av σ k => px_r1 av (fun x0 av => px_i1 av (fun x1 av => av = [] ∧ oW (g σ x0 x1) (fun q => k (some (.inl q.1)) q.2)))
/-- NoThree.leave(I)I -/
noncomputable def f_12015_35 (tab : px_T) (σ : px_M) (x0 : Nat) : Option (Int32 × px_M) := gd (px_obj (px_lay tab x0) 12) ((((σ).2.2 x0 0)).bind fun n1 => gd (px_obj (px_lay tab n1) 1) ((((σ).2.2 n1 0)).bind fun n2 => gd (px_obj (px_lay tab n2) 11) (some ((((σ).1 n2 0), σ)))))
noncomputable def f_12015 (tab : px_T) (σ : px_M) (x0 : Nat) (x1 : Int32) : Option (Int32 × px_M) := gd (px_obj (px_lay tab x0) 12) ((((σ).2.2 x0 0)).bind fun n1 => gd (px_obj (px_lay tab n1) 1) ((((σ).2.2 n1 0)).bind fun n2 => gd (px_obj (px_lay tab n2) 11) ((f_11002 tab σ n2 x1).bind fun r3 => bn (r3 = nI 0) ((f_1004 tab σ n1).bind fun q4 => (((q4).2.2 x0 0)).bind fun n5 => gd (px_obj (px_lay tab n5) 1) ((((q4).2.2 n5 0)).bind fun n6 => gd (px_obj (px_lay tab n6) 11) ((f_11012 tab q4 n6 x1).bind fun q7 => f_12015_35 tab q7 x0))) (some (((-11), σ))))))
def kp_12015_35 (Q : Nat → px_M → Prop) : px_P := fun ls st τ => st = [] ∧ kN ls (fun x0 ls => kZ ls (fun ls => kE ls (Q x0 τ)))
theorem kq_12015_35 {C : px_C} {k : Option px_V → px_M → Prop} {Q : Nat → px_M → Prop} (H : ∀ (x0 : Nat) (τ : px_M), Q x0 τ → ∀ (z1 : Option px_V), px_W C k 35 [some (.inr (.inr (some x0))), z1] [] τ) : ∀ ls st τ, kp_12015_35 Q ls st τ → px_W C k 35 ls st τ := by
  intro ls st τ hz
  obtain ⟨ez, h0⟩ := hz
  obtain ⟨x0, l0, e0, h1⟩ := kN_sp h0
  obtain ⟨z1, l1, e1, h2⟩ := kZ_sp h1
  obtain ⟨ey, hy⟩ := kE_sp h2
  subst ez
  subst ey
  subst e1
  subst e0
  exact H x0 τ hy z1
set_option maxHeartbeats 4000000 in
set_option maxRecDepth 100000 in
theorem rl_12015_35 {C : px_C} (hn : px_nd (px_tb C)) {h : Nat} (hh : 3 ≤ h) (hC : px_ok C pn_i12015 h) {k : Option px_V → px_M → Prop} {x0 : Nat} {σ : px_M} (hs : oW (f_12015_35 (px_tb C) σ x0) (fun q => k (some (.inl q.1)) q.2)) : ∀ (z1 : Option px_V), px_W C k 35 [some (.inr (.inr (some x0))), z1] [] σ := by
  intro z1
  refine px_runG (h - 1) ck_12015 [] [] 80 hC px_nosp (by omega) px_nocut (fun G Jf hG hJf => ?_)
  unfold f_12015_35 at hs
  obtain ⟨hc0, hs⟩ := oW_gx hs
  obtain ⟨n1, hc1, hs⟩ := oW_bx hs
  obtain ⟨hc2, hs⟩ := oW_gx hs
  obtain ⟨n2, hc3, hs⟩ := oW_bx hs
  obtain ⟨hc4, hs⟩ := oW_gx hs
  simp only [↓hG, ↓hJf, ↓px_vc, ↓px_ex, ↓px_jp, ↓px_gi, ↓px_gl, ↓px_gr, ↓px_s1, ↓px_s2, ↓px_nl, ↓px_i1, ↓px_l1, ↓px_r1_o, ↓px_q1, ↓px_i2, ↓px_l2, ↓px_il, ↓px_d0, ↓px_d1, ↓px_d2, ↓px_pop, px_sz, ↓px_sp, ↓px_rd, ↓px_rf, ↓pn_xf, ↓px_pt, ↓px_rok, ↓px_rv_o, ↓px_fill, ↓px_sl, ↓px_sw, ↓pn_SW, lc_lt, lc_ge, lc_gt, lc_le, lc_eq, ↓reduceIte, Nat.reduceEqDiff, Nat.reduceLeDiff, Nat.reduceAdd, Nat.reduceSub, reduceCtorEq, List.length_cons, List.length_nil, Option.toList_some, Option.toList_none, List.cons_append, List.nil_append, true_and, and_true, false_and, and_false, true_or, or_true, false_or, or_false, and_self, or_self, not_false_eq_true, not_true_eq_false, false_implies, forall_const, true_implies, eq_self, ↓kI_s, ↓kJ_s, ↓kN_s, ↓kO_s, ↓kZ_s, ↓kE_s, oW_some, px_arr_s, nI_10f, ↓bk_12015, ↓pn_i12015, eq_true hc0, hc1, eq_true hc2, hc3, eq_true hc4]
  rw [oW_some] at hs
  exact hs
set_option maxHeartbeats 4000000 in
set_option maxRecDepth 100000 in
theorem mf_12015 {tab : px_T} (hn : px_nd tab) {h : Nat} (hh : 3 ≤ h) : px_Ok tab pn_i12015 h (Sg_12015 (f_12015 tab)) := by
  refine px_mth hn (by decide +kernel) (fun av σ k hS => ?_) (fun C hT hC av σ k hS => ?_)
  · obtain ⟨x0, av0, e0, h0⟩ := px_r1_spec hS
    obtain ⟨x1, av1, e1, h1⟩ := px_i1_spec h0
    obtain ⟨ez, hs⟩ := h1
    subst ez
    subst e1
    subst e0
    exact Nat.le_of_ble_eq_true rfl
  · obtain ⟨x0, av0, e0, h0⟩ := px_r1_spec hS
    obtain ⟨x1, av1, e1, h1⟩ := px_i1_spec h0
    obtain ⟨ez, hs⟩ := h1
    subst ez
    subst e1
    subst e0
    subst hT
    refine px_runG (h - 1) ck_12015 [(1004, Sg_1004 (f_1004 (px_tb C))), (11002, Sg_11002 (f_11002 (px_tb C))), (11012, Sg_11012 (f_11012 (px_tb C)))] [(35, kp_12015_35 (fun y0 τ => oW (f_12015_35 (px_tb C) τ y0) (fun q => k (some (.inl q.1)) q.2)))] 80 hC (px_sp1 (mf_1004 hn (by omega)) (px_sp1 (mf_11002 hn (by omega)) (px_sp1 (mf_11012 hn (by omega)) px_nosp))) (by omega) (px_cut1 (kq_12015_35 (fun y0 τ hq => by exact rl_12015_35 hn (by omega) hC  hq)) px_nocut) (fun G Jf hG hJf => ?_)
    unfold f_12015 at hs
    obtain ⟨hc0, hs⟩ := oW_gx hs
    obtain ⟨n1, hc1, hs⟩ := oW_bx hs
    obtain ⟨hc2, hs⟩ := oW_gx hs
    obtain ⟨n2, hc3, hs⟩ := oW_bx hs
    obtain ⟨hc4, hs⟩ := oW_gx hs
    obtain ⟨r3, hc5, hs⟩ := oW_bx hs
    by_cases hc6 : r3 = nI 0
    · replace hs := bW_t hs hc6
      simp only [↓hG, ↓hJf, ↓px_vc, ↓px_ex, ↓px_jp, ↓px_gi, ↓px_gl, ↓px_gr, ↓px_s1, ↓px_s2, ↓px_nl, ↓px_i1, ↓px_l1, ↓px_r1_o, ↓px_q1, ↓px_i2, ↓px_l2, ↓px_il, ↓px_d0, ↓px_d1, ↓px_d2, ↓px_pop, px_sz, ↓px_sp, ↓px_rd, ↓px_rf, ↓pn_xf, ↓px_pt, ↓px_rok, ↓px_rv_o, ↓px_fill, ↓px_sl, ↓px_sw, ↓pn_SW, lc_lt, lc_ge, lc_gt, lc_le, lc_eq, ↓reduceIte, Nat.reduceEqDiff, Nat.reduceLeDiff, Nat.reduceAdd, Nat.reduceSub, reduceCtorEq, List.length_cons, List.length_nil, Option.toList_some, Option.toList_none, List.cons_append, List.nil_append, true_and, and_true, false_and, and_false, true_or, or_true, false_or, or_false, and_self, or_self, not_false_eq_true, not_true_eq_false, false_implies, forall_const, true_implies, eq_self, ↓kI_s, ↓kJ_s, ↓kN_s, ↓kO_s, ↓kZ_s, ↓kE_s, oW_some, px_arr_s, nI_10f, ↓bk_12015, ↓pn_i12015, ↓Sg_1004, ↓Sg_11002, ↓Sg_11012, ↓kp_12015_35, eq_true hc0, hc1, eq_true hc2, hc3, eq_true hc4, hc5, eq_true hc6]
      rw [oW_some] at hs
      exact hs
    · replace hs := bW_f hs hc6
      obtain ⟨q4, hc7, hs⟩ := oW_bx hs
      obtain ⟨n5, hc8, hs⟩ := oW_bx hs
      obtain ⟨hc9, hs⟩ := oW_gx hs
      obtain ⟨n6, hc10, hs⟩ := oW_bx hs
      obtain ⟨hc11, hs⟩ := oW_gx hs
      obtain ⟨q7, hc12, hs⟩ := oW_bx hs
      simp only [↓hG, ↓hJf, ↓px_vc, ↓px_ex, ↓px_jp, ↓px_gi, ↓px_gl, ↓px_gr, ↓px_s1, ↓px_s2, ↓px_nl, ↓px_i1, ↓px_l1, ↓px_r1_o, ↓px_q1, ↓px_i2, ↓px_l2, ↓px_il, ↓px_d0, ↓px_d1, ↓px_d2, ↓px_pop, px_sz, ↓px_sp, ↓px_rd, ↓px_rf, ↓pn_xf, ↓px_pt, ↓px_rok, ↓px_rv_o, ↓px_fill, ↓px_sl, ↓px_sw, ↓pn_SW, lc_lt, lc_ge, lc_gt, lc_le, lc_eq, ↓reduceIte, Nat.reduceEqDiff, Nat.reduceLeDiff, Nat.reduceAdd, Nat.reduceSub, reduceCtorEq, List.length_cons, List.length_nil, Option.toList_some, Option.toList_none, List.cons_append, List.nil_append, true_and, and_true, false_and, and_false, true_or, or_true, false_or, or_false, and_self, or_self, not_false_eq_true, not_true_eq_false, false_implies, forall_const, true_implies, eq_self, ↓kI_s, ↓kJ_s, ↓kN_s, ↓kO_s, ↓kZ_s, ↓kE_s, oW_some, px_arr_s, nI_10f, ↓bk_12015, ↓pn_i12015, ↓Sg_1004, ↓Sg_11002, ↓Sg_11012, ↓kp_12015_35, eq_true hc0, hc1, eq_true hc2, hc3, eq_true hc4, hc5, eq_false hc6, hc7, hc8, eq_true hc9, hc10, eq_true hc11, hc12]
      exact hs
def Sg_12016 (g : px_M → Nat → Option (Int32 × px_M)) : px_S := fun av σ k => px_r1 av (fun x0 av => av = [] ∧ oW (g σ x0) (fun q => k (some (.inl q.1)) q.2))
/-- NoThree.weave()I -/
noncomputable def f_12016 (tab : px_T) (σ : px_M) (x0 : Nat) : Option (Int32 × px_M) := gd (px_obj (px_lay tab x0) 12) ((((σ).2.2 x0 0)).bind fun n1 => gd (px_obj (px_lay tab n1) 1) ((((σ).2.2 n1 0)).bind fun n2 => gd (px_obj (px_lay tab n2) 11) (if ((σ).1 n2 0) ≤ (nI 5) then ((f_1004 tab σ n1).bind fun q3 => (((q3).2.2 x0 0)).bind fun n4 => gd (px_obj (px_lay tab n4) 1) ((((q3).2.2 n4 0)).bind fun n5 => gd (px_obj (px_lay tab n5) 11) ((f_11013 tab q3 n5).bind fun q6 => (((q6).2.2 x0 0)).bind fun n7 => gd (px_obj (px_lay tab n7) 1) ((((q6).2.2 n7 0)).bind fun n8 => gd (px_obj (px_lay tab n8) 11) (some ((((q6).1 n8 0), q6))))))) else (some (((-4), σ))))))
set_option maxHeartbeats 4000000 in
set_option maxRecDepth 100000 in
theorem mf_12016 {tab : px_T} (hn : px_nd tab) {h : Nat} (hh : 6 ≤ h) : px_Ok tab pn_i12016 h (Sg_12016 (f_12016 tab)) := by
  refine px_mth hn (by decide +kernel) (fun av σ k hS => ?_) (fun C hT hC av σ k hS => ?_)
  · obtain ⟨x0, av0, e0, h0⟩ := px_r1_spec hS
    obtain ⟨ez, hs⟩ := h0
    subst ez
    subst e0
    exact Nat.le_of_ble_eq_true rfl
  · obtain ⟨x0, av0, e0, h0⟩ := px_r1_spec hS
    obtain ⟨ez, hs⟩ := h0
    subst ez
    subst e0
    subst hT
    refine px_runG (h - 1) ck_12016 [(1004, Sg_1004 (f_1004 (px_tb C))), (11013, Sg_11013 (f_11013 (px_tb C)))] [] 80 hC (px_sp1 (mf_1004 hn (by omega)) (px_sp1 (mf_11013 hn (by omega)) px_nosp)) (by omega) px_nocut (fun G Jf hG hJf => ?_)
    unfold f_12016 at hs
    obtain ⟨hc0, hs⟩ := oW_gx hs
    obtain ⟨n1, hc1, hs⟩ := oW_bx hs
    obtain ⟨hc2, hs⟩ := oW_gx hs
    obtain ⟨n2, hc3, hs⟩ := oW_bx hs
    obtain ⟨hc4, hs⟩ := oW_gx hs
    by_cases hc5 : ((σ).1 n2 0) ≤ (nI 5)
    · replace hs := oW_t hs hc5
      obtain ⟨q3, hc6, hs⟩ := oW_bx hs
      obtain ⟨n4, hc7, hs⟩ := oW_bx hs
      obtain ⟨hc8, hs⟩ := oW_gx hs
      obtain ⟨n5, hc9, hs⟩ := oW_bx hs
      obtain ⟨hc10, hs⟩ := oW_gx hs
      obtain ⟨q6, hc11, hs⟩ := oW_bx hs
      obtain ⟨n7, hc12, hs⟩ := oW_bx hs
      obtain ⟨hc13, hs⟩ := oW_gx hs
      obtain ⟨n8, hc14, hs⟩ := oW_bx hs
      obtain ⟨hc15, hs⟩ := oW_gx hs
      simp only [↓hG, ↓hJf, ↓px_vc, ↓px_ex, ↓px_jp, ↓px_gi, ↓px_gl, ↓px_gr, ↓px_s1, ↓px_s2, ↓px_nl, ↓px_i1, ↓px_l1, ↓px_r1_o, ↓px_q1, ↓px_i2, ↓px_l2, ↓px_il, ↓px_d0, ↓px_d1, ↓px_d2, ↓px_pop, px_sz, ↓px_sp, ↓px_rd, ↓px_rf, ↓pn_xf, ↓px_pt, ↓px_rok, ↓px_rv_o, ↓px_fill, ↓px_sl, ↓px_sw, ↓pn_SW, lc_lt, lc_ge, lc_gt, lc_le, lc_eq, ↓reduceIte, Nat.reduceEqDiff, Nat.reduceLeDiff, Nat.reduceAdd, Nat.reduceSub, reduceCtorEq, List.length_cons, List.length_nil, Option.toList_some, Option.toList_none, List.cons_append, List.nil_append, true_and, and_true, false_and, and_false, true_or, or_true, false_or, or_false, and_self, or_self, not_false_eq_true, not_true_eq_false, false_implies, forall_const, true_implies, eq_self, ↓kI_s, ↓kJ_s, ↓kN_s, ↓kO_s, ↓kZ_s, ↓kE_s, oW_some, px_arr_s, nI_10f, ↓bk_12016, ↓pn_i12016, ↓Sg_1004, ↓Sg_11013, eq_true hc0, hc1, eq_true hc2, hc3, eq_true hc4, eq_true hc5, hc6, hc7, eq_true hc8, hc9, eq_true hc10, hc11, hc12, eq_true hc13, hc14, eq_true hc15]
      rw [oW_some] at hs
      exact hs
    · replace hs := oW_f hs hc5
      simp only [↓hG, ↓hJf, ↓px_vc, ↓px_ex, ↓px_jp, ↓px_gi, ↓px_gl, ↓px_gr, ↓px_s1, ↓px_s2, ↓px_nl, ↓px_i1, ↓px_l1, ↓px_r1_o, ↓px_q1, ↓px_i2, ↓px_l2, ↓px_il, ↓px_d0, ↓px_d1, ↓px_d2, ↓px_pop, px_sz, ↓px_sp, ↓px_rd, ↓px_rf, ↓pn_xf, ↓px_pt, ↓px_rok, ↓px_rv_o, ↓px_fill, ↓px_sl, ↓px_sw, ↓pn_SW, lc_lt, lc_ge, lc_gt, lc_le, lc_eq, ↓reduceIte, Nat.reduceEqDiff, Nat.reduceLeDiff, Nat.reduceAdd, Nat.reduceSub, reduceCtorEq, List.length_cons, List.length_nil, Option.toList_some, Option.toList_none, List.cons_append, List.nil_append, true_and, and_true, false_and, and_false, true_or, or_true, false_or, or_false, and_self, or_self, not_false_eq_true, not_true_eq_false, false_implies, forall_const, true_implies, eq_self, ↓kI_s, ↓kJ_s, ↓kN_s, ↓kO_s, ↓kZ_s, ↓kE_s, oW_some, px_arr_s, nI_10f, ↓bk_12016, ↓pn_i12016, ↓Sg_1004, ↓Sg_11013, eq_true hc0, hc1, eq_true hc2, hc3, eq_true hc4, eq_false hc5]
      rw [oW_some] at hs
      exact hs
def Sg_12017 (g : px_M → Nat → Int32 → Option (Int32 × px_M)) : px_S := fun av σ k => px_r1 av (fun x0 av => px_i1 av (fun x1 av => av = [] ∧ oW (g σ x0 x1) (fun q => k (some (.inl q.1)) q.2)))
/-- NoThree.undo(I)I -/
noncomputable def f_12017 (tab : px_T) (σ : px_M) (x0 : Nat) (x1 : Int32) : Option (Int32 × px_M) := if x1 < (nI 1) then (some (((-3), σ))) else (if (nI 12) < x1 then (some (((-3), σ))) else (gd (px_obj (px_lay tab x0) 12) ((((σ).2.2 x0 0)).bind fun n1 => gd (px_obj (px_lay tab n1) 1) (if x1 ≤ ((σ).1 n1 3) then ((f_1005 tab σ n1 x1).bind fun q2 => (((q2).2.2 x0 0)).bind fun n3 => gd (px_obj (px_lay tab n3) 1) (some ((((q2).1 n3 3), q2)))) else (some (((-3), σ)))))))
set_option maxHeartbeats 4000000 in
set_option maxRecDepth 100000 in
theorem mf_12017 {tab : px_T} (hn : px_nd tab) {h : Nat} (hh : 2 ≤ h) : px_Ok tab pn_i12017 h (Sg_12017 (f_12017 tab)) := by
  refine px_mth hn (by decide +kernel) (fun av σ k hS => ?_) (fun C hT hC av σ k hS => ?_)
  · obtain ⟨x0, av0, e0, h0⟩ := px_r1_spec hS
    obtain ⟨x1, av1, e1, h1⟩ := px_i1_spec h0
    obtain ⟨ez, hs⟩ := h1
    subst ez
    subst e1
    subst e0
    exact Nat.le_of_ble_eq_true rfl
  · obtain ⟨x0, av0, e0, h0⟩ := px_r1_spec hS
    obtain ⟨x1, av1, e1, h1⟩ := px_i1_spec h0
    obtain ⟨ez, hs⟩ := h1
    subst ez
    subst e1
    subst e0
    subst hT
    refine px_runG (h - 1) ck_12017 [(1005, Sg_1005 (f_1005 (px_tb C)))] [] 80 hC (px_sp1 (mf_1005 hn (by omega)) px_nosp) (by omega) px_nocut (fun G Jf hG hJf => ?_)
    unfold f_12017 at hs
    by_cases hc0 : x1 < (nI 1)
    · replace hs := oW_t hs hc0
      simp only [↓hG, ↓hJf, ↓px_vc, ↓px_ex, ↓px_jp, ↓px_gi, ↓px_gl, ↓px_gr, ↓px_s1, ↓px_s2, ↓px_nl, ↓px_i1, ↓px_l1, ↓px_r1_o, ↓px_q1, ↓px_i2, ↓px_l2, ↓px_il, ↓px_d0, ↓px_d1, ↓px_d2, ↓px_pop, px_sz, ↓px_sp, ↓px_rd, ↓px_rf, ↓pn_xf, ↓px_pt, ↓px_rok, ↓px_rv_o, ↓px_fill, ↓px_sl, ↓px_sw, ↓pn_SW, lc_lt, lc_ge, lc_gt, lc_le, lc_eq, ↓reduceIte, Nat.reduceEqDiff, Nat.reduceLeDiff, Nat.reduceAdd, Nat.reduceSub, reduceCtorEq, List.length_cons, List.length_nil, Option.toList_some, Option.toList_none, List.cons_append, List.nil_append, true_and, and_true, false_and, and_false, true_or, or_true, false_or, or_false, and_self, or_self, not_false_eq_true, not_true_eq_false, false_implies, forall_const, true_implies, eq_self, ↓kI_s, ↓kJ_s, ↓kN_s, ↓kO_s, ↓kZ_s, ↓kE_s, oW_some, px_arr_s, nI_10f, ↓bk_12017, ↓pn_i12017, ↓Sg_1005, eq_true hc0]
      rw [oW_some] at hs
      exact hs
    · replace hs := oW_f hs hc0
      by_cases hc1 : (nI 12) < x1
      · replace hs := oW_t hs hc1
        simp only [↓hG, ↓hJf, ↓px_vc, ↓px_ex, ↓px_jp, ↓px_gi, ↓px_gl, ↓px_gr, ↓px_s1, ↓px_s2, ↓px_nl, ↓px_i1, ↓px_l1, ↓px_r1_o, ↓px_q1, ↓px_i2, ↓px_l2, ↓px_il, ↓px_d0, ↓px_d1, ↓px_d2, ↓px_pop, px_sz, ↓px_sp, ↓px_rd, ↓px_rf, ↓pn_xf, ↓px_pt, ↓px_rok, ↓px_rv_o, ↓px_fill, ↓px_sl, ↓px_sw, ↓pn_SW, lc_lt, lc_ge, lc_gt, lc_le, lc_eq, ↓reduceIte, Nat.reduceEqDiff, Nat.reduceLeDiff, Nat.reduceAdd, Nat.reduceSub, reduceCtorEq, List.length_cons, List.length_nil, Option.toList_some, Option.toList_none, List.cons_append, List.nil_append, true_and, and_true, false_and, and_false, true_or, or_true, false_or, or_false, and_self, or_self, not_false_eq_true, not_true_eq_false, false_implies, forall_const, true_implies, eq_self, ↓kI_s, ↓kJ_s, ↓kN_s, ↓kO_s, ↓kZ_s, ↓kE_s, oW_some, px_arr_s, nI_10f, ↓bk_12017, ↓pn_i12017, ↓Sg_1005, eq_false hc0, eq_true hc1]
        rw [oW_some] at hs
        exact hs
      · replace hs := oW_f hs hc1
        obtain ⟨hc2, hs⟩ := oW_gx hs
        obtain ⟨n1, hc3, hs⟩ := oW_bx hs
        obtain ⟨hc4, hs⟩ := oW_gx hs
        by_cases hc5 : x1 ≤ ((σ).1 n1 3)
        · replace hs := oW_t hs hc5
          obtain ⟨q2, hc6, hs⟩ := oW_bx hs
          obtain ⟨n3, hc7, hs⟩ := oW_bx hs
          obtain ⟨hc8, hs⟩ := oW_gx hs
          simp only [↓hG, ↓hJf, ↓px_vc, ↓px_ex, ↓px_jp, ↓px_gi, ↓px_gl, ↓px_gr, ↓px_s1, ↓px_s2, ↓px_nl, ↓px_i1, ↓px_l1, ↓px_r1_o, ↓px_q1, ↓px_i2, ↓px_l2, ↓px_il, ↓px_d0, ↓px_d1, ↓px_d2, ↓px_pop, px_sz, ↓px_sp, ↓px_rd, ↓px_rf, ↓pn_xf, ↓px_pt, ↓px_rok, ↓px_rv_o, ↓px_fill, ↓px_sl, ↓px_sw, ↓pn_SW, lc_lt, lc_ge, lc_gt, lc_le, lc_eq, ↓reduceIte, Nat.reduceEqDiff, Nat.reduceLeDiff, Nat.reduceAdd, Nat.reduceSub, reduceCtorEq, List.length_cons, List.length_nil, Option.toList_some, Option.toList_none, List.cons_append, List.nil_append, true_and, and_true, false_and, and_false, true_or, or_true, false_or, or_false, and_self, or_self, not_false_eq_true, not_true_eq_false, false_implies, forall_const, true_implies, eq_self, ↓kI_s, ↓kJ_s, ↓kN_s, ↓kO_s, ↓kZ_s, ↓kE_s, oW_some, px_arr_s, nI_10f, ↓bk_12017, ↓pn_i12017, ↓Sg_1005, eq_false hc0, eq_false hc1, eq_true hc2, hc3, eq_true hc4, eq_true hc5, hc6, hc7, eq_true hc8]
          rw [oW_some] at hs
          exact hs
        · replace hs := oW_f hs hc5
          simp only [↓hG, ↓hJf, ↓px_vc, ↓px_ex, ↓px_jp, ↓px_gi, ↓px_gl, ↓px_gr, ↓px_s1, ↓px_s2, ↓px_nl, ↓px_i1, ↓px_l1, ↓px_r1_o, ↓px_q1, ↓px_i2, ↓px_l2, ↓px_il, ↓px_d0, ↓px_d1, ↓px_d2, ↓px_pop, px_sz, ↓px_sp, ↓px_rd, ↓px_rf, ↓pn_xf, ↓px_pt, ↓px_rok, ↓px_rv_o, ↓px_fill, ↓px_sl, ↓px_sw, ↓pn_SW, lc_lt, lc_ge, lc_gt, lc_le, lc_eq, ↓reduceIte, Nat.reduceEqDiff, Nat.reduceLeDiff, Nat.reduceAdd, Nat.reduceSub, reduceCtorEq, List.length_cons, List.length_nil, Option.toList_some, Option.toList_none, List.cons_append, List.nil_append, true_and, and_true, false_and, and_false, true_or, or_true, false_or, or_false, and_self, or_self, not_false_eq_true, not_true_eq_false, false_implies, forall_const, true_implies, eq_self, ↓kI_s, ↓kJ_s, ↓kN_s, ↓kO_s, ↓kZ_s, ↓kE_s, oW_some, px_arr_s, nI_10f, ↓bk_12017, ↓pn_i12017, ↓Sg_1005, eq_false hc0, eq_false hc1, eq_true hc2, hc3, eq_true hc4, eq_false hc5]
          rw [oW_some] at hs
          exact hs
def Sg_12055 (g : px_M → Int32 → Option (Int32)) : px_S := fun av σ k => px_i1 av (fun x0 av => av = [] ∧ oW (g σ x0) (fun r => k (some (.inl r)) σ))
/-- NoThree.isRow(I)Z -/
noncomputable def f_12055 (tab : px_T) (σ : px_M) (x0 : Int32) : Option (Int32) := if x0 < nI 0 then (some ((nI 0))) else (if (nI 4) ≤ x0 then (some ((nI 0))) else (some ((nI 1))))
set_option maxHeartbeats 4000000 in
set_option maxRecDepth 100000 in
theorem mf_12055 {tab : px_T} (hn : px_nd tab) {h : Nat} (hh : 1 ≤ h) : px_Ok tab pn_i12055 h (Sg_12055 (f_12055 tab)) := by
  refine px_mth hn (by decide +kernel) (fun av σ k hS => ?_) (fun C hT hC av σ k hS => ?_)
  · obtain ⟨x0, av0, e0, h0⟩ := px_i1_spec hS
    obtain ⟨ez, hs⟩ := h0
    subst ez
    subst e0
    exact Nat.le_of_ble_eq_true rfl
  · obtain ⟨x0, av0, e0, h0⟩ := px_i1_spec hS
    obtain ⟨ez, hs⟩ := h0
    subst ez
    subst e0
    subst hT
    refine px_runG (h - 1) ck_12055 [] [] 80 hC px_nosp (by omega) px_nocut (fun G Jf hG hJf => ?_)
    unfold f_12055 at hs
    by_cases hc0 : x0 < nI 0
    · replace hs := oW_t hs hc0
      simp only [↓hG, ↓hJf, ↓px_vc, ↓px_ex, ↓px_jp, ↓px_gi, ↓px_gl, ↓px_gr, ↓px_s1, ↓px_s2, ↓px_nl, ↓px_i1, ↓px_l1, ↓px_r1_o, ↓px_q1, ↓px_i2, ↓px_l2, ↓px_il, ↓px_d0, ↓px_d1, ↓px_d2, ↓px_pop, px_sz, ↓px_sp, ↓px_rd, ↓px_rf, ↓pn_xf, ↓px_pt, ↓px_rok, ↓px_rv_o, ↓px_fill, ↓px_sl, ↓px_sw, ↓pn_SW, lc_lt, lc_ge, lc_gt, lc_le, lc_eq, ↓reduceIte, Nat.reduceEqDiff, Nat.reduceLeDiff, Nat.reduceAdd, Nat.reduceSub, reduceCtorEq, List.length_cons, List.length_nil, Option.toList_some, Option.toList_none, List.cons_append, List.nil_append, true_and, and_true, false_and, and_false, true_or, or_true, false_or, or_false, and_self, or_self, not_false_eq_true, not_true_eq_false, false_implies, forall_const, true_implies, eq_self, ↓kI_s, ↓kJ_s, ↓kN_s, ↓kO_s, ↓kZ_s, ↓kE_s, oW_some, px_arr_s, nI_10f, ↓bk_12055, ↓pn_i12055, eq_true hc0]
      rw [oW_some] at hs
      exact hs
    · replace hs := oW_f hs hc0
      by_cases hc1 : (nI 4) ≤ x0
      · replace hs := oW_t hs hc1
        simp only [↓hG, ↓hJf, ↓px_vc, ↓px_ex, ↓px_jp, ↓px_gi, ↓px_gl, ↓px_gr, ↓px_s1, ↓px_s2, ↓px_nl, ↓px_i1, ↓px_l1, ↓px_r1_o, ↓px_q1, ↓px_i2, ↓px_l2, ↓px_il, ↓px_d0, ↓px_d1, ↓px_d2, ↓px_pop, px_sz, ↓px_sp, ↓px_rd, ↓px_rf, ↓pn_xf, ↓px_pt, ↓px_rok, ↓px_rv_o, ↓px_fill, ↓px_sl, ↓px_sw, ↓pn_SW, lc_lt, lc_ge, lc_gt, lc_le, lc_eq, ↓reduceIte, Nat.reduceEqDiff, Nat.reduceLeDiff, Nat.reduceAdd, Nat.reduceSub, reduceCtorEq, List.length_cons, List.length_nil, Option.toList_some, Option.toList_none, List.cons_append, List.nil_append, true_and, and_true, false_and, and_false, true_or, or_true, false_or, or_false, and_self, or_self, not_false_eq_true, not_true_eq_false, false_implies, forall_const, true_implies, eq_self, ↓kI_s, ↓kJ_s, ↓kN_s, ↓kO_s, ↓kZ_s, ↓kE_s, oW_some, px_arr_s, nI_10f, ↓bk_12055, ↓pn_i12055, eq_false hc0, eq_true hc1]
        rw [oW_some] at hs
        exact hs
      · replace hs := oW_f hs hc1
        simp only [↓hG, ↓hJf, ↓px_vc, ↓px_ex, ↓px_jp, ↓px_gi, ↓px_gl, ↓px_gr, ↓px_s1, ↓px_s2, ↓px_nl, ↓px_i1, ↓px_l1, ↓px_r1_o, ↓px_q1, ↓px_i2, ↓px_l2, ↓px_il, ↓px_d0, ↓px_d1, ↓px_d2, ↓px_pop, px_sz, ↓px_sp, ↓px_rd, ↓px_rf, ↓pn_xf, ↓px_pt, ↓px_rok, ↓px_rv_o, ↓px_fill, ↓px_sl, ↓px_sw, ↓pn_SW, lc_lt, lc_ge, lc_gt, lc_le, lc_eq, ↓reduceIte, Nat.reduceEqDiff, Nat.reduceLeDiff, Nat.reduceAdd, Nat.reduceSub, reduceCtorEq, List.length_cons, List.length_nil, Option.toList_some, Option.toList_none, List.cons_append, List.nil_append, true_and, and_true, false_and, and_false, true_or, or_true, false_or, or_false, and_self, or_self, not_false_eq_true, not_true_eq_false, false_implies, forall_const, true_implies, eq_self, ↓kI_s, ↓kJ_s, ↓kN_s, ↓kO_s, ↓kZ_s, ↓kE_s, oW_some, px_arr_s, nI_10f, ↓bk_12055, ↓pn_i12055, eq_false hc0, eq_false hc1]
        rw [oW_some] at hs
        exact hs
def Sg_12063 (g : px_M → Nat → Nat → Int64 → Option (Int32 × px_M)) : px_S := fun av σ k => px_r1 av (fun x0 av => px_r1 av (fun x1 av => px_l1 av (fun x2 av => av = [] ∧ oW (g σ x0 x1 x2) (fun q => k (some (.inl q.1)) q.2))))
/-- NoThree.reasonAgainstAct(LNoThree$Town;J)I -/
noncomputable def f_12063_43 (tab : px_T) (σ : px_M) (x0 : Nat) (x1 : Nat) (x4 : Int32) (x5 : Int32) : Option (Int32 × px_M) := gd (px_obj (px_lay tab x1) 11) ((f_11006 tab σ x1 x4 x5).bind fun r1 => if r1 = nI 0 then (gd (px_obj (px_lay tab x0) 12) ((f_12059 tab σ x0 x1).bind fun q2 => (((q2).2.2 x0 9)).bind fun n3 => gd (px_obj (px_lay tab n3) 2) ((f_2005 tab q2 n3 x4 x5).bind fun q4 => some ((q4.1, q4.2))))) else (some (((nI 0), σ))))
noncomputable def f_12063_41 (tab : px_T) (σ : px_M) : Option (Int32 × px_M) := some (((nI 1), σ))
noncomputable def f_12063 (tab : px_T) (σ : px_M) (x0 : Nat) (x1 : Nat) (x2 : Int64) : Option (Int32 × px_M) := if x2 < (lN 0) then (some (((nI 1), σ))) else (if x2 < (lN 1100) then (gd (¬ (nI 100) = nI 0) (gd (px_obj (px_lay tab x1) 11) ((f_11003 tab σ x1 (((x2).toInt32 / (nI 100))) (((x2).toInt32 - (x2).toInt32 / (nI 100) * (nI 100)))).bind fun r1 => bn (r1 = nI 0) (f_12063_43 tab σ x0 x1 (((x2).toInt32 / (nI 100))) (((x2).toInt32 - (x2).toInt32 / (nI 100) * (nI 100)))) (f_12063_41 tab σ)))) else (some (((nI 1), σ))))
def kp_12063_43 (Q : Nat → Nat → Int32 → Int32 → px_M → Prop) : px_P := fun ls st τ => st = [] ∧ kN ls (fun x0 ls => kN ls (fun x1 ls => kZ ls (fun ls => kZ ls (fun ls => kI ls (fun x4 ls => kI ls (fun x5 ls => kE ls (Q x0 x1 x4 x5 τ)))))))
theorem kq_12063_43 {C : px_C} {k : Option px_V → px_M → Prop} {Q : Nat → Nat → Int32 → Int32 → px_M → Prop} (H : ∀ (x0 : Nat) (x1 : Nat) (x4 : Int32) (x5 : Int32) (τ : px_M), Q x0 x1 x4 x5 τ → ∀ (z2 : Option px_V) (z3 : Option px_V), px_W C k 43 [some (.inr (.inr (some x0))), some (.inr (.inr (some x1))), z2, z3, some (.inl x4), some (.inl x5)] [] τ) : ∀ ls st τ, kp_12063_43 Q ls st τ → px_W C k 43 ls st τ := by
  intro ls st τ hz
  obtain ⟨ez, h0⟩ := hz
  obtain ⟨x0, l0, e0, h1⟩ := kN_sp h0
  obtain ⟨x1, l1, e1, h2⟩ := kN_sp h1
  obtain ⟨z2, l2, e2, h3⟩ := kZ_sp h2
  obtain ⟨z3, l3, e3, h4⟩ := kZ_sp h3
  obtain ⟨x4, l4, e4, h5⟩ := kI_sp h4
  obtain ⟨x5, l5, e5, h6⟩ := kI_sp h5
  obtain ⟨ey, hy⟩ := kE_sp h6
  subst ez
  subst ey
  subst e5
  subst e4
  subst e3
  subst e2
  subst e1
  subst e0
  exact H x0 x1 x4 x5 τ hy z2 z3
def kp_12063_41 (Q : px_M → Prop) : px_P := fun ls st τ => st = [] ∧ kZ ls (fun ls => kZ ls (fun ls => kZ ls (fun ls => kZ ls (fun ls => kZ ls (fun ls => kZ ls (fun ls => kE ls (Q τ)))))))
theorem kq_12063_41 {C : px_C} {k : Option px_V → px_M → Prop} {Q : px_M → Prop} (H : ∀ (τ : px_M), Q τ → ∀ (z0 : Option px_V) (z1 : Option px_V) (z2 : Option px_V) (z3 : Option px_V) (z4 : Option px_V) (z5 : Option px_V), px_W C k 41 [z0, z1, z2, z3, z4, z5] [] τ) : ∀ ls st τ, kp_12063_41 Q ls st τ → px_W C k 41 ls st τ := by
  intro ls st τ hz
  obtain ⟨ez, h0⟩ := hz
  obtain ⟨z0, l0, e0, h1⟩ := kZ_sp h0
  obtain ⟨z1, l1, e1, h2⟩ := kZ_sp h1
  obtain ⟨z2, l2, e2, h3⟩ := kZ_sp h2
  obtain ⟨z3, l3, e3, h4⟩ := kZ_sp h3
  obtain ⟨z4, l4, e4, h5⟩ := kZ_sp h4
  obtain ⟨z5, l5, e5, h6⟩ := kZ_sp h5
  obtain ⟨ey, hy⟩ := kE_sp h6
  subst ez
  subst ey
  subst e5
  subst e4
  subst e3
  subst e2
  subst e1
  subst e0
  exact H τ hy z0 z1 z2 z3 z4 z5
set_option maxHeartbeats 4000000 in
set_option maxRecDepth 100000 in
theorem rl_12063_43 {C : px_C} (hn : px_nd (px_tb C)) {h : Nat} (hh : 31 ≤ h) (hC : px_ok C pn_i12063 h) {k : Option px_V → px_M → Prop} {x0 : Nat} {x1 : Nat} {x4 : Int32} {x5 : Int32} {σ : px_M} (hs : oW (f_12063_43 (px_tb C) σ x0 x1 x4 x5) (fun q => k (some (.inl q.1)) q.2)) : ∀ (z2 : Option px_V) (z3 : Option px_V), px_W C k 43 [some (.inr (.inr (some x0))), some (.inr (.inr (some x1))), z2, z3, some (.inl x4), some (.inl x5)] [] σ := by
  intro z2 z3
  refine px_runG (h - 1) ck_12063 [(2005, Sg_2005 (f_2005 (px_tb C))), (11006, Sg_11006 (f_11006 (px_tb C))), (12059, Sg_12059 (f_12059 (px_tb C)))] [] 80 hC (px_sp1 (mf_2005 hn (by omega)) (px_sp1 (mf_11006 hn (by omega)) (px_sp1 (mf_12059 hn (by omega)) px_nosp))) (by omega) px_nocut (fun G Jf hG hJf => ?_)
  unfold f_12063_43 at hs
  obtain ⟨hc0, hs⟩ := oW_gx hs
  obtain ⟨r1, hc1, hs⟩ := oW_bx hs
  by_cases hc2 : r1 = nI 0
  · replace hs := oW_t hs hc2
    obtain ⟨hc3, hs⟩ := oW_gx hs
    obtain ⟨q2, hc4, hs⟩ := oW_bx hs
    obtain ⟨n3, hc5, hs⟩ := oW_bx hs
    obtain ⟨hc6, hs⟩ := oW_gx hs
    obtain ⟨q4, hc7, hs⟩ := oW_bx hs
    simp only [↓hG, ↓hJf, ↓px_vc, ↓px_ex, ↓px_jp, ↓px_gi, ↓px_gl, ↓px_gr, ↓px_s1, ↓px_s2, ↓px_nl, ↓px_i1, ↓px_l1, ↓px_r1_o, ↓px_q1, ↓px_i2, ↓px_l2, ↓px_il, ↓px_d0, ↓px_d1, ↓px_d2, ↓px_pop, px_sz, ↓px_sp, ↓px_rd, ↓px_rf, ↓pn_xf, ↓px_pt, ↓px_rok, ↓px_rv_o, ↓px_fill, ↓px_sl, ↓px_sw, ↓pn_SW, lc_lt, lc_ge, lc_gt, lc_le, lc_eq, ↓reduceIte, Nat.reduceEqDiff, Nat.reduceLeDiff, Nat.reduceAdd, Nat.reduceSub, reduceCtorEq, List.length_cons, List.length_nil, Option.toList_some, Option.toList_none, List.cons_append, List.nil_append, true_and, and_true, false_and, and_false, true_or, or_true, false_or, or_false, and_self, or_self, not_false_eq_true, not_true_eq_false, false_implies, forall_const, true_implies, eq_self, ↓kI_s, ↓kJ_s, ↓kN_s, ↓kO_s, ↓kZ_s, ↓kE_s, oW_some, px_arr_s, nI_10f, ↓bk_12063, ↓pn_i12063, ↓Sg_2005, ↓Sg_11006, ↓Sg_12059, eq_true hc0, hc1, eq_true hc2, eq_true hc3, hc4, hc5, eq_true hc6, hc7]
    rw [oW_some] at hs
    exact hs
  · replace hs := oW_f hs hc2
    simp only [↓hG, ↓hJf, ↓px_vc, ↓px_ex, ↓px_jp, ↓px_gi, ↓px_gl, ↓px_gr, ↓px_s1, ↓px_s2, ↓px_nl, ↓px_i1, ↓px_l1, ↓px_r1_o, ↓px_q1, ↓px_i2, ↓px_l2, ↓px_il, ↓px_d0, ↓px_d1, ↓px_d2, ↓px_pop, px_sz, ↓px_sp, ↓px_rd, ↓px_rf, ↓pn_xf, ↓px_pt, ↓px_rok, ↓px_rv_o, ↓px_fill, ↓px_sl, ↓px_sw, ↓pn_SW, lc_lt, lc_ge, lc_gt, lc_le, lc_eq, ↓reduceIte, Nat.reduceEqDiff, Nat.reduceLeDiff, Nat.reduceAdd, Nat.reduceSub, reduceCtorEq, List.length_cons, List.length_nil, Option.toList_some, Option.toList_none, List.cons_append, List.nil_append, true_and, and_true, false_and, and_false, true_or, or_true, false_or, or_false, and_self, or_self, not_false_eq_true, not_true_eq_false, false_implies, forall_const, true_implies, eq_self, ↓kI_s, ↓kJ_s, ↓kN_s, ↓kO_s, ↓kZ_s, ↓kE_s, oW_some, px_arr_s, nI_10f, ↓bk_12063, ↓pn_i12063, ↓Sg_2005, ↓Sg_11006, ↓Sg_12059, eq_true hc0, hc1, eq_false hc2]
    rw [oW_some] at hs
    exact hs
set_option maxHeartbeats 4000000 in
set_option maxRecDepth 100000 in
theorem rl_12063_41 {C : px_C} (hn : px_nd (px_tb C)) {h : Nat} (hh : 31 ≤ h) (hC : px_ok C pn_i12063 h) {k : Option px_V → px_M → Prop} {σ : px_M} (hs : oW (f_12063_41 (px_tb C) σ) (fun q => k (some (.inl q.1)) q.2)) : ∀ (z0 : Option px_V) (z1 : Option px_V) (z2 : Option px_V) (z3 : Option px_V) (z4 : Option px_V) (z5 : Option px_V), px_W C k 41 [z0, z1, z2, z3, z4, z5] [] σ := by
  intro z0 z1 z2 z3 z4 z5
  refine px_runG (h - 1) ck_12063 [] [] 80 hC px_nosp (by omega) px_nocut (fun G Jf hG hJf => ?_)
  unfold f_12063_41 at hs
  simp only [↓hG, ↓hJf, ↓px_vc, ↓px_ex, ↓px_jp, ↓px_gi, ↓px_gl, ↓px_gr, ↓px_s1, ↓px_s2, ↓px_nl, ↓px_i1, ↓px_l1, ↓px_r1_o, ↓px_q1, ↓px_i2, ↓px_l2, ↓px_il, ↓px_d0, ↓px_d1, ↓px_d2, ↓px_pop, px_sz, ↓px_sp, ↓px_rd, ↓px_rf, ↓pn_xf, ↓px_pt, ↓px_rok, ↓px_rv_o, ↓px_fill, ↓px_sl, ↓px_sw, ↓pn_SW, lc_lt, lc_ge, lc_gt, lc_le, lc_eq, ↓reduceIte, Nat.reduceEqDiff, Nat.reduceLeDiff, Nat.reduceAdd, Nat.reduceSub, reduceCtorEq, List.length_cons, List.length_nil, Option.toList_some, Option.toList_none, List.cons_append, List.nil_append, true_and, and_true, false_and, and_false, true_or, or_true, false_or, or_false, and_self, or_self, not_false_eq_true, not_true_eq_false, false_implies, forall_const, true_implies, eq_self, ↓kI_s, ↓kJ_s, ↓kN_s, ↓kO_s, ↓kZ_s, ↓kE_s, oW_some, px_arr_s, nI_10f, ↓bk_12063, ↓pn_i12063]
  rw [oW_some] at hs
  exact hs
set_option maxHeartbeats 4000000 in
set_option maxRecDepth 100000 in
theorem mf_12063 {tab : px_T} (hn : px_nd tab) {h : Nat} (hh : 31 ≤ h) : px_Ok tab pn_i12063 h (Sg_12063 (f_12063 tab)) := by
  refine px_mth hn (by decide +kernel) (fun av σ k hS => ?_) (fun C hT hC av σ k hS => ?_)
  · obtain ⟨x0, av0, e0, h0⟩ := px_r1_spec hS
    obtain ⟨x1, av1, e1, h1⟩ := px_r1_spec h0
    obtain ⟨x2, av2, e2, h2⟩ := px_l1_spec h1
    obtain ⟨ez, hs⟩ := h2
    subst ez
    subst e2
    subst e1
    subst e0
    exact Nat.le_of_ble_eq_true rfl
  · obtain ⟨x0, av0, e0, h0⟩ := px_r1_spec hS
    obtain ⟨x1, av1, e1, h1⟩ := px_r1_spec h0
    obtain ⟨x2, av2, e2, h2⟩ := px_l1_spec h1
    obtain ⟨ez, hs⟩ := h2
    subst ez
    subst e2
    subst e1
    subst e0
    subst hT
    refine px_runG (h - 1) ck_12063 [(11003, Sg_11003 (f_11003 (px_tb C)))] [(41, kp_12063_41 (fun τ => oW (f_12063_41 (px_tb C) τ) (fun q => k (some (.inl q.1)) q.2))), (43, kp_12063_43 (fun y0 y1 y4 y5 τ => oW (f_12063_43 (px_tb C) τ y0 y1 y4 y5) (fun q => k (some (.inl q.1)) q.2)))] 80 hC (px_sp1 (mf_11003 hn (by omega)) px_nosp) (by omega) (px_cut1 (kq_12063_41 (fun τ hq => by exact rl_12063_41 hn (by omega) hC  hq)) (px_cut1 (kq_12063_43 (fun y0 y1 y4 y5 τ hq => by exact rl_12063_43 hn (by omega) hC  hq)) px_nocut)) (fun G Jf hG hJf => ?_)
    unfold f_12063 at hs
    by_cases hc0 : x2 < (lN 0)
    · replace hs := oW_t hs hc0
      simp only [↓hG, ↓hJf, ↓px_vc, ↓px_ex, ↓px_jp, ↓px_gi, ↓px_gl, ↓px_gr, ↓px_s1, ↓px_s2, ↓px_nl, ↓px_i1, ↓px_l1, ↓px_r1_o, ↓px_q1, ↓px_i2, ↓px_l2, ↓px_il, ↓px_d0, ↓px_d1, ↓px_d2, ↓px_pop, px_sz, ↓px_sp, ↓px_rd, ↓px_rf, ↓pn_xf, ↓px_pt, ↓px_rok, ↓px_rv_o, ↓px_fill, ↓px_sl, ↓px_sw, ↓pn_SW, lc_lt, lc_ge, lc_gt, lc_le, lc_eq, ↓reduceIte, Nat.reduceEqDiff, Nat.reduceLeDiff, Nat.reduceAdd, Nat.reduceSub, reduceCtorEq, List.length_cons, List.length_nil, Option.toList_some, Option.toList_none, List.cons_append, List.nil_append, true_and, and_true, false_and, and_false, true_or, or_true, false_or, or_false, and_self, or_self, not_false_eq_true, not_true_eq_false, false_implies, forall_const, true_implies, eq_self, ↓kI_s, ↓kJ_s, ↓kN_s, ↓kO_s, ↓kZ_s, ↓kE_s, oW_some, px_arr_s, nI_10f, ↓bk_12063, ↓pn_i12063, ↓Sg_11003, ↓kp_12063_41, ↓kp_12063_43, eq_true hc0]
      rw [oW_some] at hs
      exact hs
    · replace hs := oW_f hs hc0
      by_cases hc1 : x2 < (lN 1100)
      · replace hs := oW_t hs hc1
        obtain ⟨hc2, hs⟩ := oW_gx hs
        obtain ⟨hc3, hs⟩ := oW_gx hs
        obtain ⟨r1, hc4, hs⟩ := oW_bx hs
        by_cases hc5 : r1 = nI 0
        · replace hs := bW_t hs hc5
          simp only [↓hG, ↓hJf, ↓px_vc, ↓px_ex, ↓px_jp, ↓px_gi, ↓px_gl, ↓px_gr, ↓px_s1, ↓px_s2, ↓px_nl, ↓px_i1, ↓px_l1, ↓px_r1_o, ↓px_q1, ↓px_i2, ↓px_l2, ↓px_il, ↓px_d0, ↓px_d1, ↓px_d2, ↓px_pop, px_sz, ↓px_sp, ↓px_rd, ↓px_rf, ↓pn_xf, ↓px_pt, ↓px_rok, ↓px_rv_o, ↓px_fill, ↓px_sl, ↓px_sw, ↓pn_SW, lc_lt, lc_ge, lc_gt, lc_le, lc_eq, ↓reduceIte, Nat.reduceEqDiff, Nat.reduceLeDiff, Nat.reduceAdd, Nat.reduceSub, reduceCtorEq, List.length_cons, List.length_nil, Option.toList_some, Option.toList_none, List.cons_append, List.nil_append, true_and, and_true, false_and, and_false, true_or, or_true, false_or, or_false, and_self, or_self, not_false_eq_true, not_true_eq_false, false_implies, forall_const, true_implies, eq_self, ↓kI_s, ↓kJ_s, ↓kN_s, ↓kO_s, ↓kZ_s, ↓kE_s, oW_some, px_arr_s, nI_10f, ↓bk_12063, ↓pn_i12063, ↓Sg_11003, ↓kp_12063_41, ↓kp_12063_43, eq_false hc0, eq_true hc1, eq_true hc2, eq_true hc3, hc4, eq_true hc5]
          exact hs
        · replace hs := bW_f hs hc5
          simp only [↓hG, ↓hJf, ↓px_vc, ↓px_ex, ↓px_jp, ↓px_gi, ↓px_gl, ↓px_gr, ↓px_s1, ↓px_s2, ↓px_nl, ↓px_i1, ↓px_l1, ↓px_r1_o, ↓px_q1, ↓px_i2, ↓px_l2, ↓px_il, ↓px_d0, ↓px_d1, ↓px_d2, ↓px_pop, px_sz, ↓px_sp, ↓px_rd, ↓px_rf, ↓pn_xf, ↓px_pt, ↓px_rok, ↓px_rv_o, ↓px_fill, ↓px_sl, ↓px_sw, ↓pn_SW, lc_lt, lc_ge, lc_gt, lc_le, lc_eq, ↓reduceIte, Nat.reduceEqDiff, Nat.reduceLeDiff, Nat.reduceAdd, Nat.reduceSub, reduceCtorEq, List.length_cons, List.length_nil, Option.toList_some, Option.toList_none, List.cons_append, List.nil_append, true_and, and_true, false_and, and_false, true_or, or_true, false_or, or_false, and_self, or_self, not_false_eq_true, not_true_eq_false, false_implies, forall_const, true_implies, eq_self, ↓kI_s, ↓kJ_s, ↓kN_s, ↓kO_s, ↓kZ_s, ↓kE_s, oW_some, px_arr_s, nI_10f, ↓bk_12063, ↓pn_i12063, ↓Sg_11003, ↓kp_12063_41, ↓kp_12063_43, eq_false hc0, eq_true hc1, eq_true hc2, eq_true hc3, hc4, eq_false hc5]
          exact hs
      · replace hs := oW_f hs hc1
        simp only [↓hG, ↓hJf, ↓px_vc, ↓px_ex, ↓px_jp, ↓px_gi, ↓px_gl, ↓px_gr, ↓px_s1, ↓px_s2, ↓px_nl, ↓px_i1, ↓px_l1, ↓px_r1_o, ↓px_q1, ↓px_i2, ↓px_l2, ↓px_il, ↓px_d0, ↓px_d1, ↓px_d2, ↓px_pop, px_sz, ↓px_sp, ↓px_rd, ↓px_rf, ↓pn_xf, ↓px_pt, ↓px_rok, ↓px_rv_o, ↓px_fill, ↓px_sl, ↓px_sw, ↓pn_SW, lc_lt, lc_ge, lc_gt, lc_le, lc_eq, ↓reduceIte, Nat.reduceEqDiff, Nat.reduceLeDiff, Nat.reduceAdd, Nat.reduceSub, reduceCtorEq, List.length_cons, List.length_nil, Option.toList_some, Option.toList_none, List.cons_append, List.nil_append, true_and, and_true, false_and, and_false, true_or, or_true, false_or, or_false, and_self, or_self, not_false_eq_true, not_true_eq_false, false_implies, forall_const, true_implies, eq_self, ↓kI_s, ↓kJ_s, ↓kN_s, ↓kO_s, ↓kZ_s, ↓kE_s, oW_some, px_arr_s, nI_10f, ↓bk_12063, ↓pn_i12063, ↓Sg_11003, ↓kp_12063_41, ↓kp_12063_43, eq_false hc0, eq_false hc1]
        rw [oW_some] at hs
        exact hs
