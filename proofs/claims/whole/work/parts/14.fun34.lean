/-! shallow functions, printed by wip/whole/decomp.py -/
/-- NoThree.image(I)I -/
noncomputable def f_12052 (tab : px_T) (σ : px_M) (x0 : Nat) (x1 : Int32) : Option (Int32 × px_M) := (f_12056 tab σ x1).bind fun r1 => bn (r1 = nI 0) (gd (px_obj (px_lay tab x0) 12) ((((σ).2.2 x0 1)).bind fun n2 => oA (px_lay tab n2) fun t3 l4 => gd (t3 = 4) (gd (vp_in x1 l4) (gd (px_obj (px_lay tab x0) 12) ((((σ).2.2 n2 (x1).toNatClampNeg)).bind fun n5 => gd (px_obj (px_lay tab n5) 1) ((((σ).2.2 x0 0)).bind fun n6 => (f_1002 tab σ n5 n6).bind fun q7 => gd (px_obj (px_lay tab x0) 12) ((((q7).2.2 x0 2)).bind fun n8 => oA (px_lay tab n8) fun t9 l10 => gd ((t9 = 1 ∧ ((nI 1)).toInt8.toInt32 = (nI 1)) ∨ (t9 = 2 ∧ ((nI 1) = nI 0 ∨ (nI 1) = nI 1))) (gd (vp_in x1 l10) (some (((nI 0), (px_wi q7 n8 (x1).toNatClampNeg (nI 1))))))))))))) (some (((-2), σ)))
def Sg_12052 (g : px_M → Nat → Int32 → Option (Int32 × px_M)) : px_S := fun av σ k => px_r1 av (fun x0 av => px_i1 av (fun x1 av => av = [] ∧ oW (g σ x0 x1) (fun q => k (some (.inl q.1)) q.2)))
set_option maxHeartbeats 4000000 in
set_option maxRecDepth 100000 in
theorem mf_12052 {tab : px_T} (hn : (tab.map Prod.fst).Nodup) {h : Nat} (hh : 3 ≤ h) : px_Ok tab pn_i12052 h (Sg_12052 (f_12052 tab)) := by
  refine px_mth hn (by decide +kernel) (fun av σ k hS => ?_) (fun C hT hC av σ k hS => ?_)
  · obtain ⟨x0, av0, e0, h0⟩ := px_r1_spec hS
    obtain ⟨x1, av1, e1, h1⟩ := px_i1_spec h0
    obtain ⟨ez, hz⟩ := h1
    subst ez
    subst e1
    subst e0
    exact Nat.le_of_ble_eq_true rfl
  · obtain ⟨x0, av0, e0, h0⟩ := px_r1_spec hS
    obtain ⟨x1, av1, e1, h1⟩ := px_i1_spec h0
    obtain ⟨ez, hz⟩ := h1
    subst ez
    subst e1
    subst e0
    subst hT
    refine px_runG (h - 1) ck_12052 [(1002, Sg_1002 (f_1002 (px_tb C))), (12056, Sg_12056 (f_12056 (px_tb C)))] [] 80 hC (px_sp1 (mf_1002 hn (by omega)) (px_sp1 (mf_12056 hn (by omega)) px_nosp)) (by omega) px_nocut (fun G Jf hG hJf => ?_)
    simp only [f_12052, oW_some, oW_none, oW_bind, oW_map, oW_ite, oW_bn, oW_gd, oW_oA, Sum.elim_inl, Sum.elim_inr, oW_and, true_and, and_true, false_and, and_false, true_or, or_true, false_or, or_false, and_self, or_self, not_false_eq_true, not_true_eq_false, false_implies, forall_const, true_implies, eq_self, ↓reduceIte] at hz
    simp only [↓hG, ↓hJf, ↓px_vc, ↓px_ex, ↓px_jp, ↓px_gi, ↓px_gl, ↓px_gr, ↓px_s1, ↓px_s2, ↓px_nl, ↓px_i1, ↓px_l1, ↓px_r1_o, ↓px_q1, ↓px_i2, ↓px_l2, ↓px_il, ↓px_d0, ↓px_d1, ↓px_d2, ↓px_pop, px_sz, ↓px_sp, ↓px_rd, ↓px_pt, ↓px_rok, ↓px_rv_o, ↓px_fill, ↓px_sl, ↓px_sw, ↓pn_SW, lc_lt, lc_ge, lc_gt, lc_le, lc_eq, ↓reduceIte, Nat.reduceEqDiff, Nat.reduceLeDiff, Nat.reduceAdd, Nat.reduceSub, reduceCtorEq, List.length_cons, List.length_nil, Option.toList_some, Option.toList_none, List.cons_append, List.nil_append, true_and, and_true, false_and, and_false, true_or, or_true, false_or, or_false, and_self, or_self, not_false_eq_true, not_true_eq_false, false_implies, forall_const, true_implies, eq_self, ↓kI_s, ↓kJ_s, ↓kN_s, ↓kO_s, ↓kZ_s, ↓kE_s, oW_and, ↓bk_12052, ↓pn_i12052, oW_some, oW_none, oW_bind, oW_map, oW_ite, oW_bn, oW_gd, oW_oA, Sum.elim_inl, Sum.elim_inr, ↓Sg_1002, ↓Sg_12056]
    exact hz
/-- NoThree.restore(I)I -/
noncomputable def f_12053 (tab : px_T) (σ : px_M) (x0 : Nat) (x1 : Int32) : Option (Int32 × px_M) := (f_12056 tab σ x1).bind fun r1 => bn (r1 = nI 0) (gd (px_obj (px_lay tab x0) 12) ((((σ).2.2 x0 2)).bind fun n2 => oA (px_lay tab n2) fun t3 l4 => gd (t3 = 1 ∨ t3 = 2) (gd (vp_in x1 l4) (bn (((σ).1 n2 (x1).toNatClampNeg) = nI 0) (gd (px_obj (px_lay tab x0) 12) (gd (px_obj (px_lay tab x0) 12) ((((σ).2.2 x0 1)).bind fun n5 => oA (px_lay tab n5) fun t6 l7 => gd (t6 = 4) (gd (vp_in x1 l7) ((((σ).2.2 x0 0)).bind fun n8 => gd (px_obj (px_lay tab n8) 1) ((((σ).2.2 n5 (x1).toNatClampNeg)).bind fun n9 => (f_1002 tab σ n8 n9).bind fun q10 => some (((nI 0), q10)))))))) (some (((-5), σ))))))) (some (((-2), σ)))
def Sg_12053 (g : px_M → Nat → Int32 → Option (Int32 × px_M)) : px_S := fun av σ k => px_r1 av (fun x0 av => px_i1 av (fun x1 av => av = [] ∧ oW (g σ x0 x1) (fun q => k (some (.inl q.1)) q.2)))
set_option maxHeartbeats 4000000 in
set_option maxRecDepth 100000 in
theorem mf_12053 {tab : px_T} (hn : (tab.map Prod.fst).Nodup) {h : Nat} (hh : 3 ≤ h) : px_Ok tab pn_i12053 h (Sg_12053 (f_12053 tab)) := by
  refine px_mth hn (by decide +kernel) (fun av σ k hS => ?_) (fun C hT hC av σ k hS => ?_)
  · obtain ⟨x0, av0, e0, h0⟩ := px_r1_spec hS
    obtain ⟨x1, av1, e1, h1⟩ := px_i1_spec h0
    obtain ⟨ez, hz⟩ := h1
    subst ez
    subst e1
    subst e0
    exact Nat.le_of_ble_eq_true rfl
  · obtain ⟨x0, av0, e0, h0⟩ := px_r1_spec hS
    obtain ⟨x1, av1, e1, h1⟩ := px_i1_spec h0
    obtain ⟨ez, hz⟩ := h1
    subst ez
    subst e1
    subst e0
    subst hT
    refine px_runG (h - 1) ck_12053 [(1002, Sg_1002 (f_1002 (px_tb C))), (12056, Sg_12056 (f_12056 (px_tb C)))] [] 80 hC (px_sp1 (mf_1002 hn (by omega)) (px_sp1 (mf_12056 hn (by omega)) px_nosp)) (by omega) px_nocut (fun G Jf hG hJf => ?_)
    simp only [f_12053, oW_some, oW_none, oW_bind, oW_map, oW_ite, oW_bn, oW_gd, oW_oA, Sum.elim_inl, Sum.elim_inr, oW_and, true_and, and_true, false_and, and_false, true_or, or_true, false_or, or_false, and_self, or_self, not_false_eq_true, not_true_eq_false, false_implies, forall_const, true_implies, eq_self, ↓reduceIte] at hz
    simp only [↓hG, ↓hJf, ↓px_vc, ↓px_ex, ↓px_jp, ↓px_gi, ↓px_gl, ↓px_gr, ↓px_s1, ↓px_s2, ↓px_nl, ↓px_i1, ↓px_l1, ↓px_r1_o, ↓px_q1, ↓px_i2, ↓px_l2, ↓px_il, ↓px_d0, ↓px_d1, ↓px_d2, ↓px_pop, px_sz, ↓px_sp, ↓px_rd, ↓px_pt, ↓px_rok, ↓px_rv_o, ↓px_fill, ↓px_sl, ↓px_sw, ↓pn_SW, lc_lt, lc_ge, lc_gt, lc_le, lc_eq, ↓reduceIte, Nat.reduceEqDiff, Nat.reduceLeDiff, Nat.reduceAdd, Nat.reduceSub, reduceCtorEq, List.length_cons, List.length_nil, Option.toList_some, Option.toList_none, List.cons_append, List.nil_append, true_and, and_true, false_and, and_false, true_or, or_true, false_or, or_false, and_self, or_self, not_false_eq_true, not_true_eq_false, false_implies, forall_const, true_implies, eq_self, ↓kI_s, ↓kJ_s, ↓kN_s, ↓kO_s, ↓kZ_s, ↓kE_s, oW_and, ↓bk_12053, ↓pn_i12053, oW_some, oW_none, oW_bind, oW_map, oW_ite, oW_bn, oW_gd, oW_oA, Sum.elim_inl, Sum.elim_inr, ↓Sg_1002, ↓Sg_12056]
    exact hz
/-- NoThree.count(I)I -/
noncomputable def f_12054 (tab : px_T) (σ : px_M) (x0 : Nat) (x1 : Int32) : Option (Int32) := (if x1 = nI 0 then (gd (px_obj (px_lay tab x0) 12) ((((σ).2.2 x0 0)).bind fun n15 => gd (px_obj (px_lay tab n15) 1) ((((σ).2.2 n15 0)).bind fun n16 => gd (px_obj (px_lay tab n16) 11) (some (((σ).1 n16 0)))))) else (if x1 = nI 1 then (gd (px_obj (px_lay tab x0) 12) ((((σ).2.2 x0 0)).bind fun n12 => gd (px_obj (px_lay tab n12) 1) ((((σ).2.2 n12 0)).bind fun n13 => gd (px_obj (px_lay tab n13) 11) ((f_11015 tab σ n13).bind fun r14 => some (r14))))) else (if x1 = nI 2 then (gd (px_obj (px_lay tab x0) 12) ((((σ).2.2 x0 0)).bind fun n10 => gd (px_obj (px_lay tab n10) 1) ((((σ).2.2 n10 1)).bind fun n11 => gd (px_obj (px_lay tab n11) 10) (some (((σ).1 n11 0)))))) else (if x1 = nI 3 then (gd (px_obj (px_lay tab x0) 12) ((((σ).2.2 x0 0)).bind fun n9 => gd (px_obj (px_lay tab n9) 1) (some (((σ).1 n9 3))))) else (if x1 = nI 4 then (gd (px_obj (px_lay tab x0) 12) ((((σ).2.2 x0 0)).bind fun n6 => gd (px_obj (px_lay tab n6) 1) ((((σ).2.2 n6 0)).bind fun n7 => gd (px_obj (px_lay tab n7) 11) ((f_11023 tab σ n7).bind fun r8 => some (r8))))) else (if x1 = nI 5 then (gd (px_obj (px_lay tab x0) 12) ((((σ).2.2 x0 0)).bind fun n3 => gd (px_obj (px_lay tab n3) 1) ((((σ).2.2 n3 0)).bind fun n4 => gd (px_obj (px_lay tab n4) 11) ((f_11021 tab σ n4).bind fun r5 => some (r5))))) else (if x1 = nI 6 then (gd (px_obj (px_lay tab x0) 12) ((((σ).2.2 x0 3)).bind fun n2 => gd (px_obj (px_lay tab n2) 9) (some (((σ).1 n2 0))))) else (if x1 = nI 7 then (gd (px_obj (px_lay tab x0) 12) ((((σ).2.2 x0 0)).bind fun n1 => gd (px_obj (px_lay tab n1) 1) (some (((σ).1 n1 2))))) else (some ((-1)))))))))))
def Sg_12054 (g : px_M → Nat → Int32 → Option (Int32)) : px_S := fun av σ k => px_r1 av (fun x0 av => px_i1 av (fun x1 av => av = [] ∧ oW (g σ x0 x1) (fun r => k (some (.inl r)) σ)))
set_option maxHeartbeats 4000000 in
set_option maxRecDepth 100000 in
theorem mf_12054 {tab : px_T} (hn : (tab.map Prod.fst).Nodup) {h : Nat} (hh : 4 ≤ h) : px_Ok tab pn_i12054 h (Sg_12054 (f_12054 tab)) := by
  refine px_mth hn (by decide +kernel) (fun av σ k hS => ?_) (fun C hT hC av σ k hS => ?_)
  · obtain ⟨x0, av0, e0, h0⟩ := px_r1_spec hS
    obtain ⟨x1, av1, e1, h1⟩ := px_i1_spec h0
    obtain ⟨ez, hz⟩ := h1
    subst ez
    subst e1
    subst e0
    exact Nat.le_of_ble_eq_true rfl
  · obtain ⟨x0, av0, e0, h0⟩ := px_r1_spec hS
    obtain ⟨x1, av1, e1, h1⟩ := px_i1_spec h0
    obtain ⟨ez, hz⟩ := h1
    subst ez
    subst e1
    subst e0
    subst hT
    refine px_runG (h - 1) ck_12054 [(11015, Sg_11015 (f_11015 (px_tb C))), (11021, Sg_11021 (f_11021 (px_tb C))), (11023, Sg_11023 (f_11023 (px_tb C)))] [] 80 hC (px_sp1 (mf_11015 hn (by omega)) (px_sp1 (mf_11021 hn (by omega)) (px_sp1 (mf_11023 hn (by omega)) px_nosp))) (by omega) px_nocut (fun G Jf hG hJf => ?_)
    simp only [f_12054, oW_some, oW_none, oW_bind, oW_map, oW_ite, oW_bn, oW_gd, oW_oA, Sum.elim_inl, Sum.elim_inr, oW_and, true_and, and_true, false_and, and_false, true_or, or_true, false_or, or_false, and_self, or_self, not_false_eq_true, not_true_eq_false, false_implies, forall_const, true_implies, eq_self, ↓reduceIte] at hz
    simp only [↓hG, ↓hJf, ↓px_vc, ↓px_ex, ↓px_jp, ↓px_gi, ↓px_gl, ↓px_gr, ↓px_s1, ↓px_s2, ↓px_nl, ↓px_i1, ↓px_l1, ↓px_r1_o, ↓px_q1, ↓px_i2, ↓px_l2, ↓px_il, ↓px_d0, ↓px_d1, ↓px_d2, ↓px_pop, px_sz, ↓px_sp, ↓px_rd, ↓px_pt, ↓px_rok, ↓px_rv_o, ↓px_fill, ↓px_sl, ↓px_sw, ↓pn_SW, lc_lt, lc_ge, lc_gt, lc_le, lc_eq, ↓reduceIte, Nat.reduceEqDiff, Nat.reduceLeDiff, Nat.reduceAdd, Nat.reduceSub, reduceCtorEq, List.length_cons, List.length_nil, Option.toList_some, Option.toList_none, List.cons_append, List.nil_append, true_and, and_true, false_and, and_false, true_or, or_true, false_or, or_false, and_self, or_self, not_false_eq_true, not_true_eq_false, false_implies, forall_const, true_implies, eq_self, ↓kI_s, ↓kJ_s, ↓kN_s, ↓kO_s, ↓kZ_s, ↓kE_s, oW_and, ↓bk_12054, ↓pn_i12054, oW_some, oW_none, oW_bind, oW_map, oW_ite, oW_bn, oW_gd, oW_oA, Sum.elim_inl, Sum.elim_inr, ↓Sg_11015, ↓Sg_11021, ↓Sg_11023]
    exact hz
