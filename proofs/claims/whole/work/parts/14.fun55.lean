/-! shallow functions, printed by wip/whole/decomp.py -/
def Sg_12067 (g : px_M → Int32 → Int64 → Option (Int64)) : px_S := fun av σ k => px_i1 av (fun x0 av => px_l1 av (fun x1 av => av = [] ∧ oW (g σ x0 x1) (fun r => k (some (.inr (.inl r))) σ)))
/-- NoThree.cutTo(IJ)J -/
noncomputable def f_12067 (tab : px_T) (σ : px_M) (x0 : Int32) (x1 : Int64) : Option (Int64) := if x0 = nI 0 then (some ((((x1).toInt32).toInt8.toInt32).toInt64)) else (if x0 = nI 1 then (some ((((x1).toInt32).toInt16.toInt32).toInt64)) else (if x0 = nI 2 then (some (((x1).toInt32).toInt64)) else (some (x1))))
set_option maxHeartbeats 4000000 in
set_option maxRecDepth 100000 in
theorem mf_12067 {tab : px_T} (hn : px_nd tab) {h : Nat} (hh : 1 ≤ h) : px_Ok tab pn_i12067 h (Sg_12067 (f_12067 tab)) := by
  refine px_mth hn (by decide +kernel) (fun av σ k hS => ?_) (fun C hT hC av σ k hS => ?_)
  · obtain ⟨x0, av0, e0, h0⟩ := px_i1_spec hS
    obtain ⟨x1, av1, e1, h1⟩ := px_l1_spec h0
    obtain ⟨ez, hs⟩ := h1
    subst ez
    subst e1
    subst e0
    exact Nat.le_of_ble_eq_true rfl
  · obtain ⟨x0, av0, e0, h0⟩ := px_i1_spec hS
    obtain ⟨x1, av1, e1, h1⟩ := px_l1_spec h0
    obtain ⟨ez, hs⟩ := h1
    subst ez
    subst e1
    subst e0
    subst hT
    refine px_runG (h - 1) ck_12067 [] [] 80 hC px_nosp (by omega) px_nocut (fun G Jf hG hJf => ?_)
    unfold f_12067 at hs
    by_cases hc0 : x0 = nI 0
    · replace hs := oW_t hs hc0
      simp only [↓hG, ↓hJf, ↓px_vc, ↓px_ex, ↓px_jp, ↓px_gi, ↓px_gl, ↓px_gr, ↓px_s1, ↓px_s2, ↓px_nl, ↓px_i1, ↓px_l1, ↓px_r1_o, ↓px_q1, ↓px_i2, ↓px_l2, ↓px_il, ↓px_d0, ↓px_d1, ↓px_d2, ↓px_pop, px_sz, ↓px_sp, ↓px_rd, ↓px_rf, ↓pn_xf, ↓px_pt, ↓px_rok, ↓px_rv_o, ↓px_fill, ↓px_sl, ↓px_sw, ↓pn_SW, lc_lt, lc_ge, lc_gt, lc_le, lc_eq, ↓reduceIte, Nat.reduceEqDiff, Nat.reduceLeDiff, Nat.reduceAdd, Nat.reduceSub, reduceCtorEq, List.length_cons, List.length_nil, Option.toList_some, Option.toList_none, List.cons_append, List.nil_append, true_and, and_true, false_and, and_false, true_or, or_true, false_or, or_false, and_self, or_self, not_false_eq_true, not_true_eq_false, false_implies, forall_const, true_implies, eq_self, ↓kI_s, ↓kJ_s, ↓kN_s, ↓kO_s, ↓kZ_s, ↓kE_s, oW_some, px_arr_s, nI_10f, ↓bk_12067, ↓pn_i12067, eq_true hc0]
      rw [oW_some] at hs
      exact hs
    · replace hs := oW_f hs hc0
      by_cases hc1 : x0 = nI 1
      · replace hs := oW_t hs hc1
        simp only [↓hG, ↓hJf, ↓px_vc, ↓px_ex, ↓px_jp, ↓px_gi, ↓px_gl, ↓px_gr, ↓px_s1, ↓px_s2, ↓px_nl, ↓px_i1, ↓px_l1, ↓px_r1_o, ↓px_q1, ↓px_i2, ↓px_l2, ↓px_il, ↓px_d0, ↓px_d1, ↓px_d2, ↓px_pop, px_sz, ↓px_sp, ↓px_rd, ↓px_rf, ↓pn_xf, ↓px_pt, ↓px_rok, ↓px_rv_o, ↓px_fill, ↓px_sl, ↓px_sw, ↓pn_SW, lc_lt, lc_ge, lc_gt, lc_le, lc_eq, ↓reduceIte, Nat.reduceEqDiff, Nat.reduceLeDiff, Nat.reduceAdd, Nat.reduceSub, reduceCtorEq, List.length_cons, List.length_nil, Option.toList_some, Option.toList_none, List.cons_append, List.nil_append, true_and, and_true, false_and, and_false, true_or, or_true, false_or, or_false, and_self, or_self, not_false_eq_true, not_true_eq_false, false_implies, forall_const, true_implies, eq_self, ↓kI_s, ↓kJ_s, ↓kN_s, ↓kO_s, ↓kZ_s, ↓kE_s, oW_some, px_arr_s, nI_10f, ↓bk_12067, ↓pn_i12067, eq_false hc0, eq_true hc1]
        rw [oW_some] at hs
        exact hs
      · replace hs := oW_f hs hc1
        by_cases hc2 : x0 = nI 2
        · replace hs := oW_t hs hc2
          simp only [↓hG, ↓hJf, ↓px_vc, ↓px_ex, ↓px_jp, ↓px_gi, ↓px_gl, ↓px_gr, ↓px_s1, ↓px_s2, ↓px_nl, ↓px_i1, ↓px_l1, ↓px_r1_o, ↓px_q1, ↓px_i2, ↓px_l2, ↓px_il, ↓px_d0, ↓px_d1, ↓px_d2, ↓px_pop, px_sz, ↓px_sp, ↓px_rd, ↓px_rf, ↓pn_xf, ↓px_pt, ↓px_rok, ↓px_rv_o, ↓px_fill, ↓px_sl, ↓px_sw, ↓pn_SW, lc_lt, lc_ge, lc_gt, lc_le, lc_eq, ↓reduceIte, Nat.reduceEqDiff, Nat.reduceLeDiff, Nat.reduceAdd, Nat.reduceSub, reduceCtorEq, List.length_cons, List.length_nil, Option.toList_some, Option.toList_none, List.cons_append, List.nil_append, true_and, and_true, false_and, and_false, true_or, or_true, false_or, or_false, and_self, or_self, not_false_eq_true, not_true_eq_false, false_implies, forall_const, true_implies, eq_self, ↓kI_s, ↓kJ_s, ↓kN_s, ↓kO_s, ↓kZ_s, ↓kE_s, oW_some, px_arr_s, nI_10f, ↓bk_12067, ↓pn_i12067, eq_false hc0, eq_false hc1, eq_true hc2]
          rw [oW_some] at hs
          exact hs
        · replace hs := oW_f hs hc2
          simp only [↓hG, ↓hJf, ↓px_vc, ↓px_ex, ↓px_jp, ↓px_gi, ↓px_gl, ↓px_gr, ↓px_s1, ↓px_s2, ↓px_nl, ↓px_i1, ↓px_l1, ↓px_r1_o, ↓px_q1, ↓px_i2, ↓px_l2, ↓px_il, ↓px_d0, ↓px_d1, ↓px_d2, ↓px_pop, px_sz, ↓px_sp, ↓px_rd, ↓px_rf, ↓pn_xf, ↓px_pt, ↓px_rok, ↓px_rv_o, ↓px_fill, ↓px_sl, ↓px_sw, ↓pn_SW, lc_lt, lc_ge, lc_gt, lc_le, lc_eq, ↓reduceIte, Nat.reduceEqDiff, Nat.reduceLeDiff, Nat.reduceAdd, Nat.reduceSub, reduceCtorEq, List.length_cons, List.length_nil, Option.toList_some, Option.toList_none, List.cons_append, List.nil_append, true_and, and_true, false_and, and_false, true_or, or_true, false_or, or_false, and_self, or_self, not_false_eq_true, not_true_eq_false, false_implies, forall_const, true_implies, eq_self, ↓kI_s, ↓kJ_s, ↓kN_s, ↓kO_s, ↓kZ_s, ↓kE_s, oW_some, px_arr_s, nI_10f, ↓bk_12067, ↓pn_i12067, eq_false hc0, eq_false hc1, eq_false hc2]
          rw [oW_some] at hs
          exact hs
def Sg_12066 (g : px_M → Nat → Int32 → Int32 → Int64 → Option (px_M)) : px_S := fun av σ k => px_r1 av (fun x0 av => px_i1 av (fun x1 av => px_i1 av (fun x2 av => px_l1 av (fun x3 av => av = [] ∧ oW (g σ x0 x1 x2 x3) (fun τ => k none τ)))))
/-- NoThree.putNumber(IIJ)V -/
noncomputable def f_12066 (tab : px_T) (σ : px_M) (x0 : Nat) (x1 : Int32) (x2 : Int32) (x3 : Int64) : Option (px_M) := if ((x1 * (nI 40)) + x2) < nI 0 then (some (σ)) else (gd (px_obj (px_lay tab x0) 12) ((((σ).2.2 x0 12)).bind fun n1 => oA (px_lay tab n1) fun t2 l3 => gd (t2 < 12) (if (nI l3) ≤ ((x1 * (nI 40)) + x2) then (some (σ)) else ((((σ).2.2 x0 13)).bind fun n4 => oA (px_lay tab n4) fun t5 l6 => gd (t5 = 0 ∨ t5 = 11) (gd (vp_in x1 l6) ((f_12067 tab σ ((px_av t5 σ n4 (x1).toNatClampNeg)) x3).bind fun r7 => gd (t2 = 3) (gd (vp_in ((x1 * (nI 40)) + x2) l3) (some ((px_wl σ n1 (((x1 * (nI 40)) + x2)).toNatClampNeg r7))))))))))
set_option maxHeartbeats 4000000 in
set_option maxRecDepth 100000 in
theorem mf_12066 {tab : px_T} (hn : px_nd tab) {h : Nat} (hh : 2 ≤ h) : px_Ok tab pn_i12066 h (Sg_12066 (f_12066 tab)) := by
  refine px_mth hn (by decide +kernel) (fun av σ k hS => ?_) (fun C hT hC av σ k hS => ?_)
  · obtain ⟨x0, av0, e0, h0⟩ := px_r1_spec hS
    obtain ⟨x1, av1, e1, h1⟩ := px_i1_spec h0
    obtain ⟨x2, av2, e2, h2⟩ := px_i1_spec h1
    obtain ⟨x3, av3, e3, h3⟩ := px_l1_spec h2
    obtain ⟨ez, hs⟩ := h3
    subst ez
    subst e3
    subst e2
    subst e1
    subst e0
    exact Nat.le_of_ble_eq_true rfl
  · obtain ⟨x0, av0, e0, h0⟩ := px_r1_spec hS
    obtain ⟨x1, av1, e1, h1⟩ := px_i1_spec h0
    obtain ⟨x2, av2, e2, h2⟩ := px_i1_spec h1
    obtain ⟨x3, av3, e3, h3⟩ := px_l1_spec h2
    obtain ⟨ez, hs⟩ := h3
    subst ez
    subst e3
    subst e2
    subst e1
    subst e0
    subst hT
    refine px_runG (h - 1) ck_12066 [(12067, Sg_12067 (f_12067 (px_tb C)))] [] 80 hC (px_sp1 (mf_12067 hn (by omega)) px_nosp) (by omega) px_nocut (fun G Jf hG hJf => ?_)
    unfold f_12066 at hs
    by_cases hc0 : ((x1 * (nI 40)) + x2) < nI 0
    · replace hs := oW_t hs hc0
      simp only [↓hG, ↓hJf, ↓px_vc, ↓px_ex, ↓px_jp, ↓px_gi, ↓px_gl, ↓px_gr, ↓px_s1, ↓px_s2, ↓px_nl, ↓px_i1, ↓px_l1, ↓px_r1_o, ↓px_q1, ↓px_i2, ↓px_l2, ↓px_il, ↓px_d0, ↓px_d1, ↓px_d2, ↓px_pop, px_sz, ↓px_sp, ↓px_rd, ↓px_rf, ↓pn_xf, ↓px_pt, ↓px_rok, ↓px_rv_o, ↓px_fill, ↓px_sl, ↓px_sw, ↓pn_SW, lc_lt, lc_ge, lc_gt, lc_le, lc_eq, ↓reduceIte, Nat.reduceEqDiff, Nat.reduceLeDiff, Nat.reduceAdd, Nat.reduceSub, reduceCtorEq, List.length_cons, List.length_nil, Option.toList_some, Option.toList_none, List.cons_append, List.nil_append, true_and, and_true, false_and, and_false, true_or, or_true, false_or, or_false, and_self, or_self, not_false_eq_true, not_true_eq_false, false_implies, forall_const, true_implies, eq_self, ↓kI_s, ↓kJ_s, ↓kN_s, ↓kO_s, ↓kZ_s, ↓kE_s, oW_some, px_arr_s, nI_10f, ↓bk_12066, ↓pn_i12066, ↓Sg_12067, eq_true hc0]
      rw [oW_some] at hs
      exact hs
    · replace hs := oW_f hs hc0
      obtain ⟨hc1, hs⟩ := oW_gx hs
      obtain ⟨n1, hc2, hs⟩ := oW_bx hs
      obtain ⟨t2, l3, hc3, hs⟩ := oW_ax hs
      obtain ⟨hc4, hs⟩ := oW_gx hs
      by_cases hc5 : (nI l3) ≤ ((x1 * (nI 40)) + x2)
      · replace hs := oW_t hs hc5
        simp only [↓hG, ↓hJf, ↓px_vc, ↓px_ex, ↓px_jp, ↓px_gi, ↓px_gl, ↓px_gr, ↓px_s1, ↓px_s2, ↓px_nl, ↓px_i1, ↓px_l1, ↓px_r1_o, ↓px_q1, ↓px_i2, ↓px_l2, ↓px_il, ↓px_d0, ↓px_d1, ↓px_d2, ↓px_pop, px_sz, ↓px_sp, ↓px_rd, ↓px_rf, ↓pn_xf, ↓px_pt, ↓px_rok, ↓px_rv_o, ↓px_fill, ↓px_sl, ↓px_sw, ↓pn_SW, lc_lt, lc_ge, lc_gt, lc_le, lc_eq, ↓reduceIte, Nat.reduceEqDiff, Nat.reduceLeDiff, Nat.reduceAdd, Nat.reduceSub, reduceCtorEq, List.length_cons, List.length_nil, Option.toList_some, Option.toList_none, List.cons_append, List.nil_append, true_and, and_true, false_and, and_false, true_or, or_true, false_or, or_false, and_self, or_self, not_false_eq_true, not_true_eq_false, false_implies, forall_const, true_implies, eq_self, ↓kI_s, ↓kJ_s, ↓kN_s, ↓kO_s, ↓kZ_s, ↓kE_s, oW_some, px_arr_s, nI_10f, ↓bk_12066, ↓pn_i12066, ↓Sg_12067, eq_false hc0, eq_true hc1, hc2, hc3, eq_true hc4, eq_true hc5]
        rw [oW_some] at hs
        exact hs
      · replace hs := oW_f hs hc5
        obtain ⟨n4, hc6, hs⟩ := oW_bx hs
        obtain ⟨t5, l6, hc7, hs⟩ := oW_ax hs
        obtain ⟨hc8, hs⟩ := oW_gx hs
        obtain ⟨hc9, hs⟩ := oW_gx hs
        obtain ⟨r7, hc10, hs⟩ := oW_bx hs
        obtain ⟨hc11, hs⟩ := oW_gx hs
        obtain ⟨hc12, hs⟩ := oW_gx hs
        simp only [↓hG, ↓hJf, ↓px_vc, ↓px_ex, ↓px_jp, ↓px_gi, ↓px_gl, ↓px_gr, ↓px_s1, ↓px_s2, ↓px_nl, ↓px_i1, ↓px_l1, ↓px_r1_o, ↓px_q1, ↓px_i2, ↓px_l2, ↓px_il, ↓px_d0, ↓px_d1, ↓px_d2, ↓px_pop, px_sz, ↓px_sp, ↓px_rd, ↓px_rf, ↓pn_xf, ↓px_pt, ↓px_rok, ↓px_rv_o, ↓px_fill, ↓px_sl, ↓px_sw, ↓pn_SW, lc_lt, lc_ge, lc_gt, lc_le, lc_eq, ↓reduceIte, Nat.reduceEqDiff, Nat.reduceLeDiff, Nat.reduceAdd, Nat.reduceSub, reduceCtorEq, List.length_cons, List.length_nil, Option.toList_some, Option.toList_none, List.cons_append, List.nil_append, true_and, and_true, false_and, and_false, true_or, or_true, false_or, or_false, and_self, or_self, not_false_eq_true, not_true_eq_false, false_implies, forall_const, true_implies, eq_self, ↓kI_s, ↓kJ_s, ↓kN_s, ↓kO_s, ↓kZ_s, ↓kE_s, oW_some, px_arr_s, nI_10f, ↓bk_12066, ↓pn_i12066, ↓Sg_12067, eq_false hc0, eq_true hc1, hc2, hc3, eq_true hc4, eq_false hc5, hc6, hc7, eq_true hc8, eq_true hc9, hc10, eq_true hc11, eq_true hc12]
        rw [oW_some] at hs
        exact hs
def Sg_12050 (g : px_M → Nat → Int32 → Int32 → Int64 → Option (Int64 × px_M)) : px_S := fun av σ k => px_r1 av (fun x0 av => px_i1 av (fun x1 av => px_i1 av (fun x2 av => px_l1 av (fun x3 av => av = [] ∧ oW (g σ x0 x1 x2 x3) (fun q => k (some (.inr (.inl q.1))) q.2)))))
/-- NoThree.write(IIJ)J -/
noncomputable def f_12050_49 (tab : px_T) (σ : px_M) (x0 : Nat) (x1 : Int32) (x2 : Int32) : Option (Int64 × px_M) := gd (px_obj (px_lay tab x0) 12) ((f_12065 tab σ x0 x1 x2).bind fun r1 => some ((r1, σ)))
noncomputable def f_12050_38 (tab : px_T) (σ : px_M) : Option (Int64 × px_M) := some (((-7), σ))
noncomputable def f_12050 (tab : px_T) (σ : px_M) (x0 : Nat) (x1 : Int32) (x2 : Int32) (x3 : Int64) : Option (Int64 × px_M) := (f_12055 tab σ x1).bind fun r1 => bn (r1 = nI 0) (gd (px_obj (px_lay tab x0) 12) ((((σ).2.2 x0 14)).bind fun n2 => oA (px_lay tab n2) fun t3 l4 => gd (t3 = 0 ∨ t3 = 11) (gd (vp_in x1 l4) (if nI 0 ≤ (px_av t3 σ n2 (x1).toNatClampNeg) then (if x2 < nI 0 then (f_12050_38 tab σ) else (if x2 < (px_av t3 σ n2 (x1).toNatClampNeg) then ((f_12066 tab σ x0 x1 x2 x3).bind fun q5 => f_12050_49 tab q5 x0 x1 x2) else (f_12050_38 tab σ))) else (some (((-6), σ))))))) (some (((-2), σ)))
def kp_12050_49 (Q : Nat → Int32 → Int32 → px_M → Prop) : px_P := fun ls st τ => st = [] ∧ kN ls (fun x0 ls => kI ls (fun x1 ls => kI ls (fun x2 ls => kZ ls (fun ls => kZ ls (fun ls => kE ls (Q x0 x1 x2 τ))))))
theorem kq_12050_49 {C : px_C} {k : Option px_V → px_M → Prop} {Q : Nat → Int32 → Int32 → px_M → Prop} (H : ∀ (x0 : Nat) (x1 : Int32) (x2 : Int32) (τ : px_M), Q x0 x1 x2 τ → ∀ (z3 : Option px_V) (z4 : Option px_V), px_W C k 49 [some (.inr (.inr (some x0))), some (.inl x1), some (.inl x2), z3, z4] [] τ) : ∀ ls st τ, kp_12050_49 Q ls st τ → px_W C k 49 ls st τ := by
  intro ls st τ hz
  obtain ⟨ez, h0⟩ := hz
  obtain ⟨x0, l0, e0, h1⟩ := kN_sp h0
  obtain ⟨x1, l1, e1, h2⟩ := kI_sp h1
  obtain ⟨x2, l2, e2, h3⟩ := kI_sp h2
  obtain ⟨z3, l3, e3, h4⟩ := kZ_sp h3
  obtain ⟨z4, l4, e4, h5⟩ := kZ_sp h4
  obtain ⟨ey, hy⟩ := kE_sp h5
  subst ez
  subst ey
  subst e4
  subst e3
  subst e2
  subst e1
  subst e0
  exact H x0 x1 x2 τ hy z3 z4
def kp_12050_38 (Q : px_M → Prop) : px_P := fun ls st τ => st = [] ∧ kZ ls (fun ls => kZ ls (fun ls => kZ ls (fun ls => kZ ls (fun ls => kZ ls (fun ls => kE ls (Q τ))))))
theorem kq_12050_38 {C : px_C} {k : Option px_V → px_M → Prop} {Q : px_M → Prop} (H : ∀ (τ : px_M), Q τ → ∀ (z0 : Option px_V) (z1 : Option px_V) (z2 : Option px_V) (z3 : Option px_V) (z4 : Option px_V), px_W C k 38 [z0, z1, z2, z3, z4] [] τ) : ∀ ls st τ, kp_12050_38 Q ls st τ → px_W C k 38 ls st τ := by
  intro ls st τ hz
  obtain ⟨ez, h0⟩ := hz
  obtain ⟨z0, l0, e0, h1⟩ := kZ_sp h0
  obtain ⟨z1, l1, e1, h2⟩ := kZ_sp h1
  obtain ⟨z2, l2, e2, h3⟩ := kZ_sp h2
  obtain ⟨z3, l3, e3, h4⟩ := kZ_sp h3
  obtain ⟨z4, l4, e4, h5⟩ := kZ_sp h4
  obtain ⟨ey, hy⟩ := kE_sp h5
  subst ez
  subst ey
  subst e4
  subst e3
  subst e2
  subst e1
  subst e0
  exact H τ hy z0 z1 z2 z3 z4
set_option maxHeartbeats 4000000 in
set_option maxRecDepth 100000 in
theorem rl_12050_49 {C : px_C} (hn : px_nd (px_tb C)) {h : Nat} (hh : 3 ≤ h) (hC : px_ok C pn_i12050 h) {k : Option px_V → px_M → Prop} {x0 : Nat} {x1 : Int32} {x2 : Int32} {σ : px_M} (hs : oW (f_12050_49 (px_tb C) σ x0 x1 x2) (fun q => k (some (.inr (.inl q.1))) q.2)) : ∀ (z3 : Option px_V) (z4 : Option px_V), px_W C k 49 [some (.inr (.inr (some x0))), some (.inl x1), some (.inl x2), z3, z4] [] σ := by
  intro z3 z4
  refine px_runG (h - 1) ck_12050 [(12065, Sg_12065 (f_12065 (px_tb C)))] [] 80 hC (px_sp1 (mf_12065 hn (by omega)) px_nosp) (by omega) px_nocut (fun G Jf hG hJf => ?_)
  unfold f_12050_49 at hs
  obtain ⟨hc0, hs⟩ := oW_gx hs
  obtain ⟨r1, hc1, hs⟩ := oW_bx hs
  simp only [↓hG, ↓hJf, ↓px_vc, ↓px_ex, ↓px_jp, ↓px_gi, ↓px_gl, ↓px_gr, ↓px_s1, ↓px_s2, ↓px_nl, ↓px_i1, ↓px_l1, ↓px_r1_o, ↓px_q1, ↓px_i2, ↓px_l2, ↓px_il, ↓px_d0, ↓px_d1, ↓px_d2, ↓px_pop, px_sz, ↓px_sp, ↓px_rd, ↓px_rf, ↓pn_xf, ↓px_pt, ↓px_rok, ↓px_rv_o, ↓px_fill, ↓px_sl, ↓px_sw, ↓pn_SW, lc_lt, lc_ge, lc_gt, lc_le, lc_eq, ↓reduceIte, Nat.reduceEqDiff, Nat.reduceLeDiff, Nat.reduceAdd, Nat.reduceSub, reduceCtorEq, List.length_cons, List.length_nil, Option.toList_some, Option.toList_none, List.cons_append, List.nil_append, true_and, and_true, false_and, and_false, true_or, or_true, false_or, or_false, and_self, or_self, not_false_eq_true, not_true_eq_false, false_implies, forall_const, true_implies, eq_self, ↓kI_s, ↓kJ_s, ↓kN_s, ↓kO_s, ↓kZ_s, ↓kE_s, oW_some, px_arr_s, nI_10f, ↓bk_12050, ↓pn_i12050, ↓Sg_12065, eq_true hc0, hc1]
  rw [oW_some] at hs
  exact hs
set_option maxHeartbeats 4000000 in
set_option maxRecDepth 100000 in
theorem rl_12050_38 {C : px_C} (hn : px_nd (px_tb C)) {h : Nat} (hh : 3 ≤ h) (hC : px_ok C pn_i12050 h) {k : Option px_V → px_M → Prop} {σ : px_M} (hs : oW (f_12050_38 (px_tb C) σ) (fun q => k (some (.inr (.inl q.1))) q.2)) : ∀ (z0 : Option px_V) (z1 : Option px_V) (z2 : Option px_V) (z3 : Option px_V) (z4 : Option px_V), px_W C k 38 [z0, z1, z2, z3, z4] [] σ := by
  intro z0 z1 z2 z3 z4
  refine px_runG (h - 1) ck_12050 [] [] 80 hC px_nosp (by omega) px_nocut (fun G Jf hG hJf => ?_)
  unfold f_12050_38 at hs
  simp only [↓hG, ↓hJf, ↓px_vc, ↓px_ex, ↓px_jp, ↓px_gi, ↓px_gl, ↓px_gr, ↓px_s1, ↓px_s2, ↓px_nl, ↓px_i1, ↓px_l1, ↓px_r1_o, ↓px_q1, ↓px_i2, ↓px_l2, ↓px_il, ↓px_d0, ↓px_d1, ↓px_d2, ↓px_pop, px_sz, ↓px_sp, ↓px_rd, ↓px_rf, ↓pn_xf, ↓px_pt, ↓px_rok, ↓px_rv_o, ↓px_fill, ↓px_sl, ↓px_sw, ↓pn_SW, lc_lt, lc_ge, lc_gt, lc_le, lc_eq, ↓reduceIte, Nat.reduceEqDiff, Nat.reduceLeDiff, Nat.reduceAdd, Nat.reduceSub, reduceCtorEq, List.length_cons, List.length_nil, Option.toList_some, Option.toList_none, List.cons_append, List.nil_append, true_and, and_true, false_and, and_false, true_or, or_true, false_or, or_false, and_self, or_self, not_false_eq_true, not_true_eq_false, false_implies, forall_const, true_implies, eq_self, ↓kI_s, ↓kJ_s, ↓kN_s, ↓kO_s, ↓kZ_s, ↓kE_s, oW_some, px_arr_s, nI_10f, ↓bk_12050, ↓pn_i12050]
  rw [oW_some] at hs
  exact hs
set_option maxHeartbeats 4000000 in
set_option maxRecDepth 100000 in
theorem mf_12050 {tab : px_T} (hn : px_nd tab) {h : Nat} (hh : 3 ≤ h) : px_Ok tab pn_i12050 h (Sg_12050 (f_12050 tab)) := by
  refine px_mth hn (by decide +kernel) (fun av σ k hS => ?_) (fun C hT hC av σ k hS => ?_)
  · obtain ⟨x0, av0, e0, h0⟩ := px_r1_spec hS
    obtain ⟨x1, av1, e1, h1⟩ := px_i1_spec h0
    obtain ⟨x2, av2, e2, h2⟩ := px_i1_spec h1
    obtain ⟨x3, av3, e3, h3⟩ := px_l1_spec h2
    obtain ⟨ez, hs⟩ := h3
    subst ez
    subst e3
    subst e2
    subst e1
    subst e0
    exact Nat.le_of_ble_eq_true rfl
  · obtain ⟨x0, av0, e0, h0⟩ := px_r1_spec hS
    obtain ⟨x1, av1, e1, h1⟩ := px_i1_spec h0
    obtain ⟨x2, av2, e2, h2⟩ := px_i1_spec h1
    obtain ⟨x3, av3, e3, h3⟩ := px_l1_spec h2
    obtain ⟨ez, hs⟩ := h3
    subst ez
    subst e3
    subst e2
    subst e1
    subst e0
    subst hT
    refine px_runG (h - 1) ck_12050 [(12055, Sg_12055 (f_12055 (px_tb C))), (12066, Sg_12066 (f_12066 (px_tb C)))] [(38, kp_12050_38 (fun τ => oW (f_12050_38 (px_tb C) τ) (fun q => k (some (.inr (.inl q.1))) q.2))), (49, kp_12050_49 (fun y0 y1 y2 τ => oW (f_12050_49 (px_tb C) τ y0 y1 y2) (fun q => k (some (.inr (.inl q.1))) q.2)))] 80 hC (px_sp1 (mf_12055 hn (by omega)) (px_sp1 (mf_12066 hn (by omega)) px_nosp)) (by omega) (px_cut1 (kq_12050_38 (fun τ hq => by exact rl_12050_38 hn (by omega) hC  hq)) (px_cut1 (kq_12050_49 (fun y0 y1 y2 τ hq => by exact rl_12050_49 hn (by omega) hC  hq)) px_nocut)) (fun G Jf hG hJf => ?_)
    unfold f_12050 at hs
    obtain ⟨r1, hc0, hs⟩ := oW_bx hs
    by_cases hc1 : r1 = nI 0
    · replace hs := bW_t hs hc1
      simp only [↓hG, ↓hJf, ↓px_vc, ↓px_ex, ↓px_jp, ↓px_gi, ↓px_gl, ↓px_gr, ↓px_s1, ↓px_s2, ↓px_nl, ↓px_i1, ↓px_l1, ↓px_r1_o, ↓px_q1, ↓px_i2, ↓px_l2, ↓px_il, ↓px_d0, ↓px_d1, ↓px_d2, ↓px_pop, px_sz, ↓px_sp, ↓px_rd, ↓px_rf, ↓pn_xf, ↓px_pt, ↓px_rok, ↓px_rv_o, ↓px_fill, ↓px_sl, ↓px_sw, ↓pn_SW, lc_lt, lc_ge, lc_gt, lc_le, lc_eq, ↓reduceIte, Nat.reduceEqDiff, Nat.reduceLeDiff, Nat.reduceAdd, Nat.reduceSub, reduceCtorEq, List.length_cons, List.length_nil, Option.toList_some, Option.toList_none, List.cons_append, List.nil_append, true_and, and_true, false_and, and_false, true_or, or_true, false_or, or_false, and_self, or_self, not_false_eq_true, not_true_eq_false, false_implies, forall_const, true_implies, eq_self, ↓kI_s, ↓kJ_s, ↓kN_s, ↓kO_s, ↓kZ_s, ↓kE_s, oW_some, px_arr_s, nI_10f, ↓bk_12050, ↓pn_i12050, ↓Sg_12055, ↓Sg_12066, ↓kp_12050_38, ↓kp_12050_49, hc0, eq_true hc1]
      rw [oW_some] at hs
      exact hs
    · replace hs := bW_f hs hc1
      obtain ⟨hc2, hs⟩ := oW_gx hs
      obtain ⟨n2, hc3, hs⟩ := oW_bx hs
      obtain ⟨t3, l4, hc4, hs⟩ := oW_ax hs
      obtain ⟨hc5, hs⟩ := oW_gx hs
      obtain ⟨hc6, hs⟩ := oW_gx hs
      by_cases hc7 : nI 0 ≤ (px_av t3 σ n2 (x1).toNatClampNeg)
      · replace hs := oW_t hs hc7
        by_cases hc8 : x2 < nI 0
        · replace hs := oW_t hs hc8
          simp only [↓hG, ↓hJf, ↓px_vc, ↓px_ex, ↓px_jp, ↓px_gi, ↓px_gl, ↓px_gr, ↓px_s1, ↓px_s2, ↓px_nl, ↓px_i1, ↓px_l1, ↓px_r1_o, ↓px_q1, ↓px_i2, ↓px_l2, ↓px_il, ↓px_d0, ↓px_d1, ↓px_d2, ↓px_pop, px_sz, ↓px_sp, ↓px_rd, ↓px_rf, ↓pn_xf, ↓px_pt, ↓px_rok, ↓px_rv_o, ↓px_fill, ↓px_sl, ↓px_sw, ↓pn_SW, lc_lt, lc_ge, lc_gt, lc_le, lc_eq, ↓reduceIte, Nat.reduceEqDiff, Nat.reduceLeDiff, Nat.reduceAdd, Nat.reduceSub, reduceCtorEq, List.length_cons, List.length_nil, Option.toList_some, Option.toList_none, List.cons_append, List.nil_append, true_and, and_true, false_and, and_false, true_or, or_true, false_or, or_false, and_self, or_self, not_false_eq_true, not_true_eq_false, false_implies, forall_const, true_implies, eq_self, ↓kI_s, ↓kJ_s, ↓kN_s, ↓kO_s, ↓kZ_s, ↓kE_s, oW_some, px_arr_s, nI_10f, ↓bk_12050, ↓pn_i12050, ↓Sg_12055, ↓Sg_12066, ↓kp_12050_38, ↓kp_12050_49, hc0, eq_false hc1, eq_true hc2, hc3, hc4, eq_true hc5, eq_true hc6, eq_true hc7, eq_true hc8]
          exact hs
        · replace hs := oW_f hs hc8
          by_cases hc9 : x2 < (px_av t3 σ n2 (x1).toNatClampNeg)
          · replace hs := oW_t hs hc9
            obtain ⟨q5, hc10, hs⟩ := oW_bx hs
            simp only [↓hG, ↓hJf, ↓px_vc, ↓px_ex, ↓px_jp, ↓px_gi, ↓px_gl, ↓px_gr, ↓px_s1, ↓px_s2, ↓px_nl, ↓px_i1, ↓px_l1, ↓px_r1_o, ↓px_q1, ↓px_i2, ↓px_l2, ↓px_il, ↓px_d0, ↓px_d1, ↓px_d2, ↓px_pop, px_sz, ↓px_sp, ↓px_rd, ↓px_rf, ↓pn_xf, ↓px_pt, ↓px_rok, ↓px_rv_o, ↓px_fill, ↓px_sl, ↓px_sw, ↓pn_SW, lc_lt, lc_ge, lc_gt, lc_le, lc_eq, ↓reduceIte, Nat.reduceEqDiff, Nat.reduceLeDiff, Nat.reduceAdd, Nat.reduceSub, reduceCtorEq, List.length_cons, List.length_nil, Option.toList_some, Option.toList_none, List.cons_append, List.nil_append, true_and, and_true, false_and, and_false, true_or, or_true, false_or, or_false, and_self, or_self, not_false_eq_true, not_true_eq_false, false_implies, forall_const, true_implies, eq_self, ↓kI_s, ↓kJ_s, ↓kN_s, ↓kO_s, ↓kZ_s, ↓kE_s, oW_some, px_arr_s, nI_10f, ↓bk_12050, ↓pn_i12050, ↓Sg_12055, ↓Sg_12066, ↓kp_12050_38, ↓kp_12050_49, hc0, eq_false hc1, eq_true hc2, hc3, hc4, eq_true hc5, eq_true hc6, eq_true hc7, eq_false hc8, eq_true hc9, hc10]
            exact hs
          · replace hs := oW_f hs hc9
            simp only [↓hG, ↓hJf, ↓px_vc, ↓px_ex, ↓px_jp, ↓px_gi, ↓px_gl, ↓px_gr, ↓px_s1, ↓px_s2, ↓px_nl, ↓px_i1, ↓px_l1, ↓px_r1_o, ↓px_q1, ↓px_i2, ↓px_l2, ↓px_il, ↓px_d0, ↓px_d1, ↓px_d2, ↓px_pop, px_sz, ↓px_sp, ↓px_rd, ↓px_rf, ↓pn_xf, ↓px_pt, ↓px_rok, ↓px_rv_o, ↓px_fill, ↓px_sl, ↓px_sw, ↓pn_SW, lc_lt, lc_ge, lc_gt, lc_le, lc_eq, ↓reduceIte, Nat.reduceEqDiff, Nat.reduceLeDiff, Nat.reduceAdd, Nat.reduceSub, reduceCtorEq, List.length_cons, List.length_nil, Option.toList_some, Option.toList_none, List.cons_append, List.nil_append, true_and, and_true, false_and, and_false, true_or, or_true, false_or, or_false, and_self, or_self, not_false_eq_true, not_true_eq_false, false_implies, forall_const, true_implies, eq_self, ↓kI_s, ↓kJ_s, ↓kN_s, ↓kO_s, ↓kZ_s, ↓kE_s, oW_some, px_arr_s, nI_10f, ↓bk_12050, ↓pn_i12050, ↓Sg_12055, ↓Sg_12066, ↓kp_12050_38, ↓kp_12050_49, hc0, eq_false hc1, eq_true hc2, hc3, hc4, eq_true hc5, eq_true hc6, eq_true hc7, eq_false hc8, eq_false hc9]
            exact hs
      · replace hs := oW_f hs hc7
        simp only [↓hG, ↓hJf, ↓px_vc, ↓px_ex, ↓px_jp, ↓px_gi, ↓px_gl, ↓px_gr, ↓px_s1, ↓px_s2, ↓px_nl, ↓px_i1, ↓px_l1, ↓px_r1_o, ↓px_q1, ↓px_i2, ↓px_l2, ↓px_il, ↓px_d0, ↓px_d1, ↓px_d2, ↓px_pop, px_sz, ↓px_sp, ↓px_rd, ↓px_rf, ↓pn_xf, ↓px_pt, ↓px_rok, ↓px_rv_o, ↓px_fill, ↓px_sl, ↓px_sw, ↓pn_SW, lc_lt, lc_ge, lc_gt, lc_le, lc_eq, ↓reduceIte, Nat.reduceEqDiff, Nat.reduceLeDiff, Nat.reduceAdd, Nat.reduceSub, reduceCtorEq, List.length_cons, List.length_nil, Option.toList_some, Option.toList_none, List.cons_append, List.nil_append, true_and, and_true, false_and, and_false, true_or, or_true, false_or, or_false, and_self, or_self, not_false_eq_true, not_true_eq_false, false_implies, forall_const, true_implies, eq_self, ↓kI_s, ↓kJ_s, ↓kN_s, ↓kO_s, ↓kZ_s, ↓kE_s, oW_some, px_arr_s, nI_10f, ↓bk_12050, ↓pn_i12050, ↓Sg_12055, ↓Sg_12066, ↓kp_12050_38, ↓kp_12050_49, hc0, eq_false hc1, eq_true hc2, hc3, hc4, eq_true hc5, eq_true hc6, eq_false hc7]
        rw [oW_some] at hs
        exact hs
def Sg_12051 (g : px_M → Nat → Int32 → Option (Int32 × px_M)) : px_S := fun av σ k => px_r1 av (fun x0 av => px_i1 av (fun x1 av => av = [] ∧ oW (g σ x0 x1) (fun q => k (some (.inl q.1)) q.2)))
/-- NoThree.copy(I)I -/
noncomputable def f_12051_105 (tab : px_T) (σ : px_M) (x0 : Nat) (x1 : Int32) (x2 : Int32) (x3 : Int32) (x4 : Int32) : Option ((Int32 × Int32 × px_M) ⊕ ((Int32 × Int32 × px_M) ⊕ (Int32 × px_M))) := some (.inl ((x2, (x4 + (nI 1)), σ)))
noncomputable def f_12051_86 (tab : px_T) (σ : px_M) (x0 : Nat) (x1 : Int32) (x2 : Int32) (x3 : Int32) (x4 : Int32) : Option ((Int32 × Int32 × px_M) ⊕ ((Int32 × Int32 × px_M) ⊕ (Int32 × px_M))) := gd (px_obj (px_lay tab x0) 12) ((f_12066 tab σ x0 x1 x2 ((((lN 100) * (x3).toInt64) + (x4).toInt64))).bind fun q1 => f_12051_105 tab q1 x0 x1 ((x2 + (nI 1))) x3 x4)
noncomputable def F_12051_45 (tab : px_T) (x0 : Nat) (x1 : Int32) (x3 : Int32) (x2 : Int32) (x4 : Int32) (σ : px_M) : Option ((Int32 × Int32 × px_M) ⊕ ((Int32 × Int32 × px_M) ⊕ (Int32 × px_M))) := gd (px_obj (px_lay tab x0) 12) ((((σ).2.2 x0 0)).bind fun n1 => gd (px_obj (px_lay tab n1) 1) ((((σ).2.2 n1 0)).bind fun n2 => gd (px_obj (px_lay tab n2) 11) (if ((σ).1 n2 0) ≤ x4 then (some (.inr (.inl ((x2, (x3 + (nI 1)), σ))))) else ((((σ).2.2 x0 14)).bind fun n3 => oA (px_lay tab n3) fun t4 l5 => gd (t4 = 0 ∨ t4 = 11) (gd (vp_in x1 l5) (if (px_av t4 σ n3 (x1).toNatClampNeg) ≤ x2 then (f_12051_105 tab σ x0 x1 x2 x3 x4) else ((f_11006 tab σ n2 x3 x4).bind fun r6 => if r6 = nI 0 then (f_12051_105 tab σ x0 x1 x2 x3 x4) else (f_12051_86 tab σ x0 x1 x2 x3 x4))))))))
noncomputable def f_12051_45 (tab : px_T) (x0 : Nat) (x1 : Int32) (x3 : Int32) (x2 : Int32) (x4 : Int32) (σ : px_M) : Option ((Int32 × Int32 × px_M) ⊕ (Int32 × px_M)) := lpO (fun s : Int32 × Int32 × px_M => F_12051_45 tab x0 x1 x3 s.1 s.2.1 s.2.2) (x2, x4, σ)
theorem f_12051_45_eq (tab : px_T) (x0 : Nat) (x1 : Int32) (x3 : Int32) (x2 : Int32) (x4 : Int32) (σ : px_M) : f_12051_45 tab x0 x1 x3 x2 x4 σ = (F_12051_45 tab x0 x1 x3 x2 x4 σ).bind (Sum.elim (fun s => f_12051_45 tab x0 x1 x3 s.1 s.2.1 s.2.2) some) := lpO_eq _ _
noncomputable def F_12051_26 (tab : px_T) (x0 : Nat) (x1 : Int32) (x2 : Int32) (x3 : Int32) (σ : px_M) : Option ((Int32 × Int32 × px_M) ⊕ (Int32 × px_M)) := gd (px_obj (px_lay tab x0) 12) ((((σ).2.2 x0 0)).bind fun n1 => gd (px_obj (px_lay tab n1) 1) ((((σ).2.2 n1 0)).bind fun n2 => gd (px_obj (px_lay tab n2) 11) (if ((σ).1 n2 0) ≤ x3 then (some (.inr ((x2, σ)))) else (f_12051_45 tab x0 x1 x3 x2 ((x3 + (nI 1))) σ))))
noncomputable def f_12051_26 (tab : px_T) (x0 : Nat) (x1 : Int32) (x2 : Int32) (x3 : Int32) (σ : px_M) : Option (Int32 × px_M) := lpO (fun s : Int32 × Int32 × px_M => F_12051_26 tab x0 x1 s.1 s.2.1 s.2.2) (x2, x3, σ)
theorem f_12051_26_eq (tab : px_T) (x0 : Nat) (x1 : Int32) (x2 : Int32) (x3 : Int32) (σ : px_M) : f_12051_26 tab x0 x1 x2 x3 σ = (F_12051_26 tab x0 x1 x2 x3 σ).bind (Sum.elim (fun s => f_12051_26 tab x0 x1 s.1 s.2.1 s.2.2) some) := lpO_eq _ _
noncomputable def f_12051 (tab : px_T) (σ : px_M) (x0 : Nat) (x1 : Int32) : Option (Int32 × px_M) := (f_12055 tab σ x1).bind fun r1 => bn (r1 = nI 0) (gd (px_obj (px_lay tab x0) 12) ((((σ).2.2 x0 14)).bind fun n2 => oA (px_lay tab n2) fun t3 l4 => gd (t3 = 0 ∨ t3 = 11) (gd (vp_in x1 l4) (if nI 0 ≤ (px_av t3 σ n2 (x1).toNatClampNeg) then (f_12051_26 tab x0 x1 ((nI 0)) ((nI 0)) σ) else (some (((-6), σ))))))) (some (((-2), σ)))
def kp_12051_105 (Q : Nat → Int32 → Int32 → Int32 → Int32 → px_M → Prop) : px_P := fun ls st τ => st = [] ∧ kN ls (fun x0 ls => kI ls (fun x1 ls => kI ls (fun x2 ls => kI ls (fun x3 ls => kI ls (fun x4 ls => kE ls (Q x0 x1 x2 x3 x4 τ))))))
theorem kq_12051_105 {C : px_C} {k : Option px_V → px_M → Prop} {Q : Nat → Int32 → Int32 → Int32 → Int32 → px_M → Prop} (H : ∀ (x0 : Nat) (x1 : Int32) (x2 : Int32) (x3 : Int32) (x4 : Int32) (τ : px_M), Q x0 x1 x2 x3 x4 τ → px_W C k 105 [some (.inr (.inr (some x0))), some (.inl x1), some (.inl x2), some (.inl x3), some (.inl x4)] [] τ) : ∀ ls st τ, kp_12051_105 Q ls st τ → px_W C k 105 ls st τ := by
  intro ls st τ hz
  obtain ⟨ez, h0⟩ := hz
  obtain ⟨x0, l0, e0, h1⟩ := kN_sp h0
  obtain ⟨x1, l1, e1, h2⟩ := kI_sp h1
  obtain ⟨x2, l2, e2, h3⟩ := kI_sp h2
  obtain ⟨x3, l3, e3, h4⟩ := kI_sp h3
  obtain ⟨x4, l4, e4, h5⟩ := kI_sp h4
  obtain ⟨ey, hy⟩ := kE_sp h5
  subst ez
  subst ey
  subst e4
  subst e3
  subst e2
  subst e1
  subst e0
  exact H x0 x1 x2 x3 x4 τ hy
def kp_12051_86 (Q : Nat → Int32 → Int32 → Int32 → Int32 → px_M → Prop) : px_P := fun ls st τ => st = [] ∧ kN ls (fun x0 ls => kI ls (fun x1 ls => kI ls (fun x2 ls => kI ls (fun x3 ls => kI ls (fun x4 ls => kE ls (Q x0 x1 x2 x3 x4 τ))))))
theorem kq_12051_86 {C : px_C} {k : Option px_V → px_M → Prop} {Q : Nat → Int32 → Int32 → Int32 → Int32 → px_M → Prop} (H : ∀ (x0 : Nat) (x1 : Int32) (x2 : Int32) (x3 : Int32) (x4 : Int32) (τ : px_M), Q x0 x1 x2 x3 x4 τ → px_W C k 86 [some (.inr (.inr (some x0))), some (.inl x1), some (.inl x2), some (.inl x3), some (.inl x4)] [] τ) : ∀ ls st τ, kp_12051_86 Q ls st τ → px_W C k 86 ls st τ := by
  intro ls st τ hz
  obtain ⟨ez, h0⟩ := hz
  obtain ⟨x0, l0, e0, h1⟩ := kN_sp h0
  obtain ⟨x1, l1, e1, h2⟩ := kI_sp h1
  obtain ⟨x2, l2, e2, h3⟩ := kI_sp h2
  obtain ⟨x3, l3, e3, h4⟩ := kI_sp h3
  obtain ⟨x4, l4, e4, h5⟩ := kI_sp h4
  obtain ⟨ey, hy⟩ := kE_sp h5
  subst ez
  subst ey
  subst e4
  subst e3
  subst e2
  subst e1
  subst e0
  exact H x0 x1 x2 x3 x4 τ hy
def kp_12051_45 (Q : Nat → Int32 → Int32 → Int32 → Int32 → px_M → Prop) : px_P := fun ls st τ => st = [] ∧ kN ls (fun x0 ls => kI ls (fun x1 ls => kI ls (fun x2 ls => kI ls (fun x3 ls => kI ls (fun x4 ls => kE ls (Q x0 x1 x2 x3 x4 τ))))))
theorem kq_12051_45 {C : px_C} {k : Option px_V → px_M → Prop} {Q : Nat → Int32 → Int32 → Int32 → Int32 → px_M → Prop} (H : ∀ (x0 : Nat) (x1 : Int32) (x2 : Int32) (x3 : Int32) (x4 : Int32) (τ : px_M), Q x0 x1 x2 x3 x4 τ → px_W C k 45 [some (.inr (.inr (some x0))), some (.inl x1), some (.inl x2), some (.inl x3), some (.inl x4)] [] τ) : ∀ ls st τ, kp_12051_45 Q ls st τ → px_W C k 45 ls st τ := by
  intro ls st τ hz
  obtain ⟨ez, h0⟩ := hz
  obtain ⟨x0, l0, e0, h1⟩ := kN_sp h0
  obtain ⟨x1, l1, e1, h2⟩ := kI_sp h1
  obtain ⟨x2, l2, e2, h3⟩ := kI_sp h2
  obtain ⟨x3, l3, e3, h4⟩ := kI_sp h3
  obtain ⟨x4, l4, e4, h5⟩ := kI_sp h4
  obtain ⟨ey, hy⟩ := kE_sp h5
  subst ez
  subst ey
  subst e4
  subst e3
  subst e2
  subst e1
  subst e0
  exact H x0 x1 x2 x3 x4 τ hy
def kp_12051_26 (Q : Nat → Int32 → Int32 → Int32 → px_M → Prop) : px_P := fun ls st τ => st = [] ∧ kN ls (fun x0 ls => kI ls (fun x1 ls => kI ls (fun x2 ls => kI ls (fun x3 ls => kZ ls (fun ls => kE ls (Q x0 x1 x2 x3 τ))))))
theorem kq_12051_26 {C : px_C} {k : Option px_V → px_M → Prop} {Q : Nat → Int32 → Int32 → Int32 → px_M → Prop} (H : ∀ (x0 : Nat) (x1 : Int32) (x2 : Int32) (x3 : Int32) (τ : px_M), Q x0 x1 x2 x3 τ → ∀ (z4 : Option px_V), px_W C k 26 [some (.inr (.inr (some x0))), some (.inl x1), some (.inl x2), some (.inl x3), z4] [] τ) : ∀ ls st τ, kp_12051_26 Q ls st τ → px_W C k 26 ls st τ := by
  intro ls st τ hz
  obtain ⟨ez, h0⟩ := hz
  obtain ⟨x0, l0, e0, h1⟩ := kN_sp h0
  obtain ⟨x1, l1, e1, h2⟩ := kI_sp h1
  obtain ⟨x2, l2, e2, h3⟩ := kI_sp h2
  obtain ⟨x3, l3, e3, h4⟩ := kI_sp h3
  obtain ⟨z4, l4, e4, h5⟩ := kZ_sp h4
  obtain ⟨ey, hy⟩ := kE_sp h5
  subst ez
  subst ey
  subst e4
  subst e3
  subst e2
  subst e1
  subst e0
  exact H x0 x1 x2 x3 τ hy z4
set_option maxHeartbeats 4000000 in
set_option maxRecDepth 100000 in
theorem rl_12051_105 {C : px_C} (hn : px_nd (px_tb C)) {h : Nat} (hh : 3 ≤ h) (hC : px_ok C pn_i12051 h) {k : Option px_V → px_M → Prop} {x0 : Nat} {x1 : Int32} {x2 : Int32} {x3 : Int32} {x4 : Int32} {σ : px_M} (hs : oW (f_12051_105 (px_tb C) σ x0 x1 x2 x3 x4) (Sum.elim (fun s : Int32 × Int32 × px_M => px_W C k 45 [some (.inr (.inr (some x0))), some (.inl x1), some (.inl s.1), some (.inl x3), some (.inl s.2.1)] [] s.2.2) (Sum.elim (fun s : Int32 × Int32 × px_M => ∀ (z4 : Option px_V), px_W C k 26 [some (.inr (.inr (some x0))), some (.inl x1), some (.inl s.1), some (.inl s.2.1), z4] [] s.2.2) (fun q => k (some (.inl q.1)) q.2)))) : px_W C k 105 [some (.inr (.inr (some x0))), some (.inl x1), some (.inl x2), some (.inl x3), some (.inl x4)] [] σ := by
  refine px_runG (h - 1) ck_12051 [] [(45, kp_12051_45 (fun y0 y1 y2 y3 y4 τ => y0 = x0 ∧ y1 = x1 ∧ y3 = x3 ∧ (fun s : Int32 × Int32 × px_M => px_W C k 45 [some (.inr (.inr (some x0))), some (.inl x1), some (.inl s.1), some (.inl x3), some (.inl s.2.1)] [] s.2.2) (y2, y4, τ)))] 80 hC px_nosp (by omega) (px_cut1 (kq_12051_45 (fun y0 y1 y2 y3 y4 τ hq => by obtain ⟨rfl, rfl, rfl, hq⟩ := hq; exact hq)) px_nocut) (fun G Jf hG hJf => ?_)
  unfold f_12051_105 at hs
  simp only [↓hG, ↓hJf, ↓px_vc, ↓px_ex, ↓px_jp, ↓px_gi, ↓px_gl, ↓px_gr, ↓px_s1, ↓px_s2, ↓px_nl, ↓px_i1, ↓px_l1, ↓px_r1_o, ↓px_q1, ↓px_i2, ↓px_l2, ↓px_il, ↓px_d0, ↓px_d1, ↓px_d2, ↓px_pop, px_sz, ↓px_sp, ↓px_rd, ↓px_rf, ↓pn_xf, ↓px_pt, ↓px_rok, ↓px_rv_o, ↓px_fill, ↓px_sl, ↓px_sw, ↓pn_SW, lc_lt, lc_ge, lc_gt, lc_le, lc_eq, ↓reduceIte, Nat.reduceEqDiff, Nat.reduceLeDiff, Nat.reduceAdd, Nat.reduceSub, reduceCtorEq, List.length_cons, List.length_nil, Option.toList_some, Option.toList_none, List.cons_append, List.nil_append, true_and, and_true, false_and, and_false, true_or, or_true, false_or, or_false, and_self, or_self, not_false_eq_true, not_true_eq_false, false_implies, forall_const, true_implies, eq_self, ↓kI_s, ↓kJ_s, ↓kN_s, ↓kO_s, ↓kZ_s, ↓kE_s, oW_some, px_arr_s, nI_10f, ↓bk_12051, ↓pn_i12051, ↓kp_12051_45]
  rw [oW_some] at hs
  exact hs
set_option maxHeartbeats 4000000 in
set_option maxRecDepth 100000 in
theorem rl_12051_86 {C : px_C} (hn : px_nd (px_tb C)) {h : Nat} (hh : 3 ≤ h) (hC : px_ok C pn_i12051 h) {k : Option px_V → px_M → Prop} {x0 : Nat} {x1 : Int32} {x2 : Int32} {x3 : Int32} {x4 : Int32} {σ : px_M} (hs : oW (f_12051_86 (px_tb C) σ x0 x1 x2 x3 x4) (Sum.elim (fun s : Int32 × Int32 × px_M => px_W C k 45 [some (.inr (.inr (some x0))), some (.inl x1), some (.inl s.1), some (.inl x3), some (.inl s.2.1)] [] s.2.2) (Sum.elim (fun s : Int32 × Int32 × px_M => ∀ (z4 : Option px_V), px_W C k 26 [some (.inr (.inr (some x0))), some (.inl x1), some (.inl s.1), some (.inl s.2.1), z4] [] s.2.2) (fun q => k (some (.inl q.1)) q.2)))) : px_W C k 86 [some (.inr (.inr (some x0))), some (.inl x1), some (.inl x2), some (.inl x3), some (.inl x4)] [] σ := by
  refine px_runG (h - 1) ck_12051 [(12066, Sg_12066 (f_12066 (px_tb C)))] [(105, kp_12051_105 (fun y0 y1 y2 y3 y4 τ => y0 = x0 ∧ y1 = x1 ∧ y3 = x3 ∧ oW (f_12051_105 (px_tb C) τ y0 y1 y2 y3 y4) (Sum.elim (fun s : Int32 × Int32 × px_M => px_W C k 45 [some (.inr (.inr (some x0))), some (.inl x1), some (.inl s.1), some (.inl x3), some (.inl s.2.1)] [] s.2.2) (Sum.elim (fun s : Int32 × Int32 × px_M => ∀ (z4 : Option px_V), px_W C k 26 [some (.inr (.inr (some x0))), some (.inl x1), some (.inl s.1), some (.inl s.2.1), z4] [] s.2.2) (fun q => k (some (.inl q.1)) q.2)))))] 80 hC (px_sp1 (mf_12066 hn (by omega)) px_nosp) (by omega) (px_cut1 (kq_12051_105 (fun y0 y1 y2 y3 y4 τ hq => by obtain ⟨rfl, rfl, rfl, hq⟩ := hq; exact rl_12051_105 hn (by omega) hC  hq)) px_nocut) (fun G Jf hG hJf => ?_)
  unfold f_12051_86 at hs
  obtain ⟨hc0, hs⟩ := oW_gx hs
  obtain ⟨q1, hc1, hs⟩ := oW_bx hs
  simp only [↓hG, ↓hJf, ↓px_vc, ↓px_ex, ↓px_jp, ↓px_gi, ↓px_gl, ↓px_gr, ↓px_s1, ↓px_s2, ↓px_nl, ↓px_i1, ↓px_l1, ↓px_r1_o, ↓px_q1, ↓px_i2, ↓px_l2, ↓px_il, ↓px_d0, ↓px_d1, ↓px_d2, ↓px_pop, px_sz, ↓px_sp, ↓px_rd, ↓px_rf, ↓pn_xf, ↓px_pt, ↓px_rok, ↓px_rv_o, ↓px_fill, ↓px_sl, ↓px_sw, ↓pn_SW, lc_lt, lc_ge, lc_gt, lc_le, lc_eq, ↓reduceIte, Nat.reduceEqDiff, Nat.reduceLeDiff, Nat.reduceAdd, Nat.reduceSub, reduceCtorEq, List.length_cons, List.length_nil, Option.toList_some, Option.toList_none, List.cons_append, List.nil_append, true_and, and_true, false_and, and_false, true_or, or_true, false_or, or_false, and_self, or_self, not_false_eq_true, not_true_eq_false, false_implies, forall_const, true_implies, eq_self, ↓kI_s, ↓kJ_s, ↓kN_s, ↓kO_s, ↓kZ_s, ↓kE_s, oW_some, px_arr_s, nI_10f, ↓bk_12051, ↓pn_i12051, ↓Sg_12066, ↓kp_12051_105, eq_true hc0, hc1]
  exact hs
set_option maxHeartbeats 4000000 in
set_option maxRecDepth 100000 in
theorem rl_12051_45 {C : px_C} (hn : px_nd (px_tb C)) {h : Nat} (hh : 3 ≤ h) (hC : px_ok C pn_i12051 h) {k : Option px_V → px_M → Prop} {x0 : Nat} {x1 : Int32} {x3 : Int32} : ∀ s : Int32 × Int32 × px_M, oW (f_12051_45 (px_tb C) x0 x1 x3 s.1 s.2.1 s.2.2) (Sum.elim (fun s : Int32 × Int32 × px_M => ∀ (z4 : Option px_V), px_W C k 26 [some (.inr (.inr (some x0))), some (.inl x1), some (.inl s.1), some (.inl s.2.1), z4] [] s.2.2) (fun q => k (some (.inl q.1)) q.2)) → (fun s : Int32 × Int32 × px_M => px_W C k 45 [some (.inr (.inr (some x0))), some (.inl x1), some (.inl s.1), some (.inl x3), some (.inl s.2.1)] [] s.2.2) s := by
  intro s h0
  refine lpO_sound (P := (fun s : Int32 × Int32 × px_M => px_W C k 45 [some (.inr (.inr (some x0))), some (.inl x1), some (.inl s.1), some (.inl x3), some (.inl s.2.1)] [] s.2.2)) (fun s hs => ?_) h0
  obtain ⟨x2, x4, σ⟩ := s
  refine px_runG (h - 1) ck_12051 [(11006, Sg_11006 (f_11006 (px_tb C)))] [(26, kp_12051_26 (fun y0 y1 y2 y3 τ => y0 = x0 ∧ y1 = x1 ∧ (fun s : Int32 × Int32 × px_M => ∀ (z4 : Option px_V), px_W C k 26 [some (.inr (.inr (some x0))), some (.inl x1), some (.inl s.1), some (.inl s.2.1), z4] [] s.2.2) (y2, y3, τ))), (86, kp_12051_86 (fun y0 y1 y2 y3 y4 τ => y0 = x0 ∧ y1 = x1 ∧ y3 = x3 ∧ oW (f_12051_86 (px_tb C) τ y0 y1 y2 y3 y4) (Sum.elim (fun s : Int32 × Int32 × px_M => px_W C k 45 [some (.inr (.inr (some x0))), some (.inl x1), some (.inl s.1), some (.inl x3), some (.inl s.2.1)] [] s.2.2) (Sum.elim (fun s : Int32 × Int32 × px_M => ∀ (z4 : Option px_V), px_W C k 26 [some (.inr (.inr (some x0))), some (.inl x1), some (.inl s.1), some (.inl s.2.1), z4] [] s.2.2) (fun q => k (some (.inl q.1)) q.2))))), (105, kp_12051_105 (fun y0 y1 y2 y3 y4 τ => y0 = x0 ∧ y1 = x1 ∧ y3 = x3 ∧ oW (f_12051_105 (px_tb C) τ y0 y1 y2 y3 y4) (Sum.elim (fun s : Int32 × Int32 × px_M => px_W C k 45 [some (.inr (.inr (some x0))), some (.inl x1), some (.inl s.1), some (.inl x3), some (.inl s.2.1)] [] s.2.2) (Sum.elim (fun s : Int32 × Int32 × px_M => ∀ (z4 : Option px_V), px_W C k 26 [some (.inr (.inr (some x0))), some (.inl x1), some (.inl s.1), some (.inl s.2.1), z4] [] s.2.2) (fun q => k (some (.inl q.1)) q.2)))))] 80 hC (px_sp1 (mf_11006 hn (by omega)) px_nosp) (by omega) (px_cut1 (kq_12051_26 (fun y0 y1 y2 y3 τ hq => by obtain ⟨rfl, rfl, hq⟩ := hq; exact hq)) (px_cut1 (kq_12051_86 (fun y0 y1 y2 y3 y4 τ hq => by obtain ⟨rfl, rfl, rfl, hq⟩ := hq; exact rl_12051_86 hn (by omega) hC  hq)) (px_cut1 (kq_12051_105 (fun y0 y1 y2 y3 y4 τ hq => by obtain ⟨rfl, rfl, rfl, hq⟩ := hq; exact rl_12051_105 hn (by omega) hC  hq)) px_nocut))) (fun G Jf hG hJf => ?_)
  replace hs : oW (F_12051_45 (px_tb C) x0 x1 x3 x2 x4 σ) _ := hs
  unfold F_12051_45 at hs
  obtain ⟨hc0, hs⟩ := oW_gx hs
  obtain ⟨n1, hc1, hs⟩ := oW_bx hs
  obtain ⟨hc2, hs⟩ := oW_gx hs
  obtain ⟨n2, hc3, hs⟩ := oW_bx hs
  obtain ⟨hc4, hs⟩ := oW_gx hs
  by_cases hc5 : ((σ).1 n2 0) ≤ x4
  · replace hs := oW_t hs hc5
    simp only [↓hG, ↓hJf, ↓px_vc, ↓px_ex, ↓px_jp, ↓px_gi, ↓px_gl, ↓px_gr, ↓px_s1, ↓px_s2, ↓px_nl, ↓px_i1, ↓px_l1, ↓px_r1_o, ↓px_q1, ↓px_i2, ↓px_l2, ↓px_il, ↓px_d0, ↓px_d1, ↓px_d2, ↓px_pop, px_sz, ↓px_sp, ↓px_rd, ↓px_rf, ↓pn_xf, ↓px_pt, ↓px_rok, ↓px_rv_o, ↓px_fill, ↓px_sl, ↓px_sw, ↓pn_SW, lc_lt, lc_ge, lc_gt, lc_le, lc_eq, ↓reduceIte, Nat.reduceEqDiff, Nat.reduceLeDiff, Nat.reduceAdd, Nat.reduceSub, reduceCtorEq, List.length_cons, List.length_nil, Option.toList_some, Option.toList_none, List.cons_append, List.nil_append, true_and, and_true, false_and, and_false, true_or, or_true, false_or, or_false, and_self, or_self, not_false_eq_true, not_true_eq_false, false_implies, forall_const, true_implies, eq_self, ↓kI_s, ↓kJ_s, ↓kN_s, ↓kO_s, ↓kZ_s, ↓kE_s, oW_some, px_arr_s, nI_10f, ↓bk_12051, ↓pn_i12051, ↓Sg_11006, ↓kp_12051_26, ↓kp_12051_86, ↓kp_12051_105, eq_true hc0, hc1, eq_true hc2, hc3, eq_true hc4, eq_true hc5]
    rw [oW_some] at hs
    exact hs
  · replace hs := oW_f hs hc5
    obtain ⟨n3, hc6, hs⟩ := oW_bx hs
    obtain ⟨t4, l5, hc7, hs⟩ := oW_ax hs
    obtain ⟨hc8, hs⟩ := oW_gx hs
    obtain ⟨hc9, hs⟩ := oW_gx hs
    by_cases hc10 : (px_av t4 σ n3 (x1).toNatClampNeg) ≤ x2
    · replace hs := oW_t hs hc10
      simp only [↓hG, ↓hJf, ↓px_vc, ↓px_ex, ↓px_jp, ↓px_gi, ↓px_gl, ↓px_gr, ↓px_s1, ↓px_s2, ↓px_nl, ↓px_i1, ↓px_l1, ↓px_r1_o, ↓px_q1, ↓px_i2, ↓px_l2, ↓px_il, ↓px_d0, ↓px_d1, ↓px_d2, ↓px_pop, px_sz, ↓px_sp, ↓px_rd, ↓px_rf, ↓pn_xf, ↓px_pt, ↓px_rok, ↓px_rv_o, ↓px_fill, ↓px_sl, ↓px_sw, ↓pn_SW, lc_lt, lc_ge, lc_gt, lc_le, lc_eq, ↓reduceIte, Nat.reduceEqDiff, Nat.reduceLeDiff, Nat.reduceAdd, Nat.reduceSub, reduceCtorEq, List.length_cons, List.length_nil, Option.toList_some, Option.toList_none, List.cons_append, List.nil_append, true_and, and_true, false_and, and_false, true_or, or_true, false_or, or_false, and_self, or_self, not_false_eq_true, not_true_eq_false, false_implies, forall_const, true_implies, eq_self, ↓kI_s, ↓kJ_s, ↓kN_s, ↓kO_s, ↓kZ_s, ↓kE_s, oW_some, px_arr_s, nI_10f, ↓bk_12051, ↓pn_i12051, ↓Sg_11006, ↓kp_12051_26, ↓kp_12051_86, ↓kp_12051_105, eq_true hc0, hc1, eq_true hc2, hc3, eq_true hc4, eq_false hc5, hc6, hc7, eq_true hc8, eq_true hc9, eq_true hc10]
      exact hs
    · replace hs := oW_f hs hc10
      obtain ⟨r6, hc11, hs⟩ := oW_bx hs
      by_cases hc12 : r6 = nI 0
      · replace hs := oW_t hs hc12
        simp only [↓hG, ↓hJf, ↓px_vc, ↓px_ex, ↓px_jp, ↓px_gi, ↓px_gl, ↓px_gr, ↓px_s1, ↓px_s2, ↓px_nl, ↓px_i1, ↓px_l1, ↓px_r1_o, ↓px_q1, ↓px_i2, ↓px_l2, ↓px_il, ↓px_d0, ↓px_d1, ↓px_d2, ↓px_pop, px_sz, ↓px_sp, ↓px_rd, ↓px_rf, ↓pn_xf, ↓px_pt, ↓px_rok, ↓px_rv_o, ↓px_fill, ↓px_sl, ↓px_sw, ↓pn_SW, lc_lt, lc_ge, lc_gt, lc_le, lc_eq, ↓reduceIte, Nat.reduceEqDiff, Nat.reduceLeDiff, Nat.reduceAdd, Nat.reduceSub, reduceCtorEq, List.length_cons, List.length_nil, Option.toList_some, Option.toList_none, List.cons_append, List.nil_append, true_and, and_true, false_and, and_false, true_or, or_true, false_or, or_false, and_self, or_self, not_false_eq_true, not_true_eq_false, false_implies, forall_const, true_implies, eq_self, ↓kI_s, ↓kJ_s, ↓kN_s, ↓kO_s, ↓kZ_s, ↓kE_s, oW_some, px_arr_s, nI_10f, ↓bk_12051, ↓pn_i12051, ↓Sg_11006, ↓kp_12051_26, ↓kp_12051_86, ↓kp_12051_105, eq_true hc0, hc1, eq_true hc2, hc3, eq_true hc4, eq_false hc5, hc6, hc7, eq_true hc8, eq_true hc9, eq_false hc10, hc11, eq_true hc12]
        exact hs
      · replace hs := oW_f hs hc12
        simp only [↓hG, ↓hJf, ↓px_vc, ↓px_ex, ↓px_jp, ↓px_gi, ↓px_gl, ↓px_gr, ↓px_s1, ↓px_s2, ↓px_nl, ↓px_i1, ↓px_l1, ↓px_r1_o, ↓px_q1, ↓px_i2, ↓px_l2, ↓px_il, ↓px_d0, ↓px_d1, ↓px_d2, ↓px_pop, px_sz, ↓px_sp, ↓px_rd, ↓px_rf, ↓pn_xf, ↓px_pt, ↓px_rok, ↓px_rv_o, ↓px_fill, ↓px_sl, ↓px_sw, ↓pn_SW, lc_lt, lc_ge, lc_gt, lc_le, lc_eq, ↓reduceIte, Nat.reduceEqDiff, Nat.reduceLeDiff, Nat.reduceAdd, Nat.reduceSub, reduceCtorEq, List.length_cons, List.length_nil, Option.toList_some, Option.toList_none, List.cons_append, List.nil_append, true_and, and_true, false_and, and_false, true_or, or_true, false_or, or_false, and_self, or_self, not_false_eq_true, not_true_eq_false, false_implies, forall_const, true_implies, eq_self, ↓kI_s, ↓kJ_s, ↓kN_s, ↓kO_s, ↓kZ_s, ↓kE_s, oW_some, px_arr_s, nI_10f, ↓bk_12051, ↓pn_i12051, ↓Sg_11006, ↓kp_12051_26, ↓kp_12051_86, ↓kp_12051_105, eq_true hc0, hc1, eq_true hc2, hc3, eq_true hc4, eq_false hc5, hc6, hc7, eq_true hc8, eq_true hc9, eq_false hc10, hc11, eq_false hc12]
        exact hs
set_option maxHeartbeats 4000000 in
set_option maxRecDepth 100000 in
theorem rl_12051_26 {C : px_C} (hn : px_nd (px_tb C)) {h : Nat} (hh : 3 ≤ h) (hC : px_ok C pn_i12051 h) {k : Option px_V → px_M → Prop} {x0 : Nat} {x1 : Int32} : ∀ s : Int32 × Int32 × px_M, oW (f_12051_26 (px_tb C) x0 x1 s.1 s.2.1 s.2.2) (fun q => k (some (.inl q.1)) q.2) → (fun s : Int32 × Int32 × px_M => ∀ (z4 : Option px_V), px_W C k 26 [some (.inr (.inr (some x0))), some (.inl x1), some (.inl s.1), some (.inl s.2.1), z4] [] s.2.2) s := by
  intro s h0
  refine lpO_sound (P := (fun s : Int32 × Int32 × px_M => ∀ (z4 : Option px_V), px_W C k 26 [some (.inr (.inr (some x0))), some (.inl x1), some (.inl s.1), some (.inl s.2.1), z4] [] s.2.2)) (fun s hs => ?_) h0
  obtain ⟨x2, x3, σ⟩ := s
  intro z4
  refine px_runG (h - 1) ck_12051 [] [(45, kp_12051_45 (fun y0 y1 y2 y3 y4 τ => y0 = x0 ∧ y1 = x1 ∧ oW (f_12051_45 (px_tb C) y0 y1 y3 y2 y4 τ) (Sum.elim (fun s : Int32 × Int32 × px_M => ∀ (z4 : Option px_V), px_W C k 26 [some (.inr (.inr (some x0))), some (.inl x1), some (.inl s.1), some (.inl s.2.1), z4] [] s.2.2) (fun q => k (some (.inl q.1)) q.2))))] 80 hC px_nosp (by omega) (px_cut1 (kq_12051_45 (fun y0 y1 y2 y3 y4 τ hq => by obtain ⟨rfl, rfl, hq⟩ := hq; exact rl_12051_45 hn (by omega) hC (y2, y4, τ) hq)) px_nocut) (fun G Jf hG hJf => ?_)
  replace hs : oW (F_12051_26 (px_tb C) x0 x1 x2 x3 σ) _ := hs
  unfold F_12051_26 at hs
  obtain ⟨hc0, hs⟩ := oW_gx hs
  obtain ⟨n1, hc1, hs⟩ := oW_bx hs
  obtain ⟨hc2, hs⟩ := oW_gx hs
  obtain ⟨n2, hc3, hs⟩ := oW_bx hs
  obtain ⟨hc4, hs⟩ := oW_gx hs
  by_cases hc5 : ((σ).1 n2 0) ≤ x3
  · replace hs := oW_t hs hc5
    simp only [↓hG, ↓hJf, ↓px_vc, ↓px_ex, ↓px_jp, ↓px_gi, ↓px_gl, ↓px_gr, ↓px_s1, ↓px_s2, ↓px_nl, ↓px_i1, ↓px_l1, ↓px_r1_o, ↓px_q1, ↓px_i2, ↓px_l2, ↓px_il, ↓px_d0, ↓px_d1, ↓px_d2, ↓px_pop, px_sz, ↓px_sp, ↓px_rd, ↓px_rf, ↓pn_xf, ↓px_pt, ↓px_rok, ↓px_rv_o, ↓px_fill, ↓px_sl, ↓px_sw, ↓pn_SW, lc_lt, lc_ge, lc_gt, lc_le, lc_eq, ↓reduceIte, Nat.reduceEqDiff, Nat.reduceLeDiff, Nat.reduceAdd, Nat.reduceSub, reduceCtorEq, List.length_cons, List.length_nil, Option.toList_some, Option.toList_none, List.cons_append, List.nil_append, true_and, and_true, false_and, and_false, true_or, or_true, false_or, or_false, and_self, or_self, not_false_eq_true, not_true_eq_false, false_implies, forall_const, true_implies, eq_self, ↓kI_s, ↓kJ_s, ↓kN_s, ↓kO_s, ↓kZ_s, ↓kE_s, oW_some, px_arr_s, nI_10f, ↓bk_12051, ↓pn_i12051, ↓kp_12051_45, eq_true hc0, hc1, eq_true hc2, hc3, eq_true hc4, eq_true hc5]
    rw [oW_some] at hs
    exact hs
  · replace hs := oW_f hs hc5
    simp only [↓hG, ↓hJf, ↓px_vc, ↓px_ex, ↓px_jp, ↓px_gi, ↓px_gl, ↓px_gr, ↓px_s1, ↓px_s2, ↓px_nl, ↓px_i1, ↓px_l1, ↓px_r1_o, ↓px_q1, ↓px_i2, ↓px_l2, ↓px_il, ↓px_d0, ↓px_d1, ↓px_d2, ↓px_pop, px_sz, ↓px_sp, ↓px_rd, ↓px_rf, ↓pn_xf, ↓px_pt, ↓px_rok, ↓px_rv_o, ↓px_fill, ↓px_sl, ↓px_sw, ↓pn_SW, lc_lt, lc_ge, lc_gt, lc_le, lc_eq, ↓reduceIte, Nat.reduceEqDiff, Nat.reduceLeDiff, Nat.reduceAdd, Nat.reduceSub, reduceCtorEq, List.length_cons, List.length_nil, Option.toList_some, Option.toList_none, List.cons_append, List.nil_append, true_and, and_true, false_and, and_false, true_or, or_true, false_or, or_false, and_self, or_self, not_false_eq_true, not_true_eq_false, false_implies, forall_const, true_implies, eq_self, ↓kI_s, ↓kJ_s, ↓kN_s, ↓kO_s, ↓kZ_s, ↓kE_s, oW_some, px_arr_s, nI_10f, ↓bk_12051, ↓pn_i12051, ↓kp_12051_45, eq_true hc0, hc1, eq_true hc2, hc3, eq_true hc4, eq_false hc5]
    exact hs
set_option maxHeartbeats 4000000 in
set_option maxRecDepth 100000 in
theorem mf_12051 {tab : px_T} (hn : px_nd tab) {h : Nat} (hh : 3 ≤ h) : px_Ok tab pn_i12051 h (Sg_12051 (f_12051 tab)) := by
  refine px_mth hn (by decide +kernel) (fun av σ k hS => ?_) (fun C hT hC av σ k hS => ?_)
  · obtain ⟨x0, av0, e0, h0⟩ := px_r1_spec hS
    obtain ⟨x1, av1, e1, h1⟩ := px_i1_spec h0
    obtain ⟨ez, hs⟩ := h1
    subst ez
    subst e1
    subst e0
    exact Nat.le_of_ble_eq_true rfl
  · obtain ⟨x0, av0, e0, h0⟩ := px_r1_spec hS
    obtain ⟨x1, av1, e1, h1⟩ := px_i1_spec h0
    obtain ⟨ez, hs⟩ := h1
    subst ez
    subst e1
    subst e0
    subst hT
    refine px_runG (h - 1) ck_12051 [(12055, Sg_12055 (f_12055 (px_tb C)))] [(26, kp_12051_26 (fun y0 y1 y2 y3 τ => oW (f_12051_26 (px_tb C) y0 y1 y2 y3 τ) (fun q => k (some (.inl q.1)) q.2)))] 80 hC (px_sp1 (mf_12055 hn (by omega)) px_nosp) (by omega) (px_cut1 (kq_12051_26 (fun y0 y1 y2 y3 τ hq => by exact rl_12051_26 hn (by omega) hC (y2, y3, τ) hq)) px_nocut) (fun G Jf hG hJf => ?_)
    unfold f_12051 at hs
    obtain ⟨r1, hc0, hs⟩ := oW_bx hs
    by_cases hc1 : r1 = nI 0
    · replace hs := bW_t hs hc1
      simp only [↓hG, ↓hJf, ↓px_vc, ↓px_ex, ↓px_jp, ↓px_gi, ↓px_gl, ↓px_gr, ↓px_s1, ↓px_s2, ↓px_nl, ↓px_i1, ↓px_l1, ↓px_r1_o, ↓px_q1, ↓px_i2, ↓px_l2, ↓px_il, ↓px_d0, ↓px_d1, ↓px_d2, ↓px_pop, px_sz, ↓px_sp, ↓px_rd, ↓px_rf, ↓pn_xf, ↓px_pt, ↓px_rok, ↓px_rv_o, ↓px_fill, ↓px_sl, ↓px_sw, ↓pn_SW, lc_lt, lc_ge, lc_gt, lc_le, lc_eq, ↓reduceIte, Nat.reduceEqDiff, Nat.reduceLeDiff, Nat.reduceAdd, Nat.reduceSub, reduceCtorEq, List.length_cons, List.length_nil, Option.toList_some, Option.toList_none, List.cons_append, List.nil_append, true_and, and_true, false_and, and_false, true_or, or_true, false_or, or_false, and_self, or_self, not_false_eq_true, not_true_eq_false, false_implies, forall_const, true_implies, eq_self, ↓kI_s, ↓kJ_s, ↓kN_s, ↓kO_s, ↓kZ_s, ↓kE_s, oW_some, px_arr_s, nI_10f, ↓bk_12051, ↓pn_i12051, ↓Sg_12055, ↓kp_12051_26, hc0, eq_true hc1]
      rw [oW_some] at hs
      exact hs
    · replace hs := bW_f hs hc1
      obtain ⟨hc2, hs⟩ := oW_gx hs
      obtain ⟨n2, hc3, hs⟩ := oW_bx hs
      obtain ⟨t3, l4, hc4, hs⟩ := oW_ax hs
      obtain ⟨hc5, hs⟩ := oW_gx hs
      obtain ⟨hc6, hs⟩ := oW_gx hs
      by_cases hc7 : nI 0 ≤ (px_av t3 σ n2 (x1).toNatClampNeg)
      · replace hs := oW_t hs hc7
        simp only [↓hG, ↓hJf, ↓px_vc, ↓px_ex, ↓px_jp, ↓px_gi, ↓px_gl, ↓px_gr, ↓px_s1, ↓px_s2, ↓px_nl, ↓px_i1, ↓px_l1, ↓px_r1_o, ↓px_q1, ↓px_i2, ↓px_l2, ↓px_il, ↓px_d0, ↓px_d1, ↓px_d2, ↓px_pop, px_sz, ↓px_sp, ↓px_rd, ↓px_rf, ↓pn_xf, ↓px_pt, ↓px_rok, ↓px_rv_o, ↓px_fill, ↓px_sl, ↓px_sw, ↓pn_SW, lc_lt, lc_ge, lc_gt, lc_le, lc_eq, ↓reduceIte, Nat.reduceEqDiff, Nat.reduceLeDiff, Nat.reduceAdd, Nat.reduceSub, reduceCtorEq, List.length_cons, List.length_nil, Option.toList_some, Option.toList_none, List.cons_append, List.nil_append, true_and, and_true, false_and, and_false, true_or, or_true, false_or, or_false, and_self, or_self, not_false_eq_true, not_true_eq_false, false_implies, forall_const, true_implies, eq_self, ↓kI_s, ↓kJ_s, ↓kN_s, ↓kO_s, ↓kZ_s, ↓kE_s, oW_some, px_arr_s, nI_10f, ↓bk_12051, ↓pn_i12051, ↓Sg_12055, ↓kp_12051_26, hc0, eq_false hc1, eq_true hc2, hc3, hc4, eq_true hc5, eq_true hc6, eq_true hc7]
        exact hs
      · replace hs := oW_f hs hc7
        simp only [↓hG, ↓hJf, ↓px_vc, ↓px_ex, ↓px_jp, ↓px_gi, ↓px_gl, ↓px_gr, ↓px_s1, ↓px_s2, ↓px_nl, ↓px_i1, ↓px_l1, ↓px_r1_o, ↓px_q1, ↓px_i2, ↓px_l2, ↓px_il, ↓px_d0, ↓px_d1, ↓px_d2, ↓px_pop, px_sz, ↓px_sp, ↓px_rd, ↓px_rf, ↓pn_xf, ↓px_pt, ↓px_rok, ↓px_rv_o, ↓px_fill, ↓px_sl, ↓px_sw, ↓pn_SW, lc_lt, lc_ge, lc_gt, lc_le, lc_eq, ↓reduceIte, Nat.reduceEqDiff, Nat.reduceLeDiff, Nat.reduceAdd, Nat.reduceSub, reduceCtorEq, List.length_cons, List.length_nil, Option.toList_some, Option.toList_none, List.cons_append, List.nil_append, true_and, and_true, false_and, and_false, true_or, or_true, false_or, or_false, and_self, or_self, not_false_eq_true, not_true_eq_false, false_implies, forall_const, true_implies, eq_self, ↓kI_s, ↓kJ_s, ↓kN_s, ↓kO_s, ↓kZ_s, ↓kE_s, oW_some, px_arr_s, nI_10f, ↓bk_12051, ↓pn_i12051, ↓Sg_12055, ↓kp_12051_26, hc0, eq_false hc1, eq_true hc2, hc3, hc4, eq_true hc5, eq_true hc6, eq_false hc7]
        rw [oW_some] at hs
        exact hs
def Sg_12052 (g : px_M → Nat → Int32 → Option (Int32 × px_M)) : px_S := fun av σ k => px_r1 av (fun x0 av => px_i1 av (fun x1 av => av = [] ∧ oW (g σ x0 x1) (fun q => k (some (.inl q.1)) q.2)))
/-- NoThree.image(I)I -/
noncomputable def f_12052 (tab : px_T) (σ : px_M) (x0 : Nat) (x1 : Int32) : Option (Int32 × px_M) := (f_12056 tab σ x1).bind fun r1 => bn (r1 = nI 0) (gd (px_obj (px_lay tab x0) 12) ((((σ).2.2 x0 1)).bind fun n2 => oA (px_lay tab n2) fun t3 l4 => gd (t3 = 4) (gd (vp_in x1 l4) ((((σ).2.2 n2 (x1).toNatClampNeg)).bind fun n5 => gd (px_obj (px_lay tab n5) 1) ((((σ).2.2 x0 0)).bind fun n6 => (f_1002 tab σ n5 n6).bind fun q7 => (((q7).2.2 x0 2)).bind fun n8 => oA (px_lay tab n8) fun t9 l10 => gd ((t9 = 1 ∧ ((nI 1)).toInt8.toInt32 = (nI 1)) ∨ (t9 = 2 ∧ ((nI 1) = nI 0 ∨ (nI 1) = nI 1))) (gd (vp_in x1 l10) (some (((nI 0), (px_wi q7 n8 (x1).toNatClampNeg (nI 1))))))))))) (some (((-2), σ)))
set_option maxHeartbeats 4000000 in
set_option maxRecDepth 100000 in
theorem mf_12052 {tab : px_T} (hn : px_nd tab) {h : Nat} (hh : 3 ≤ h) : px_Ok tab pn_i12052 h (Sg_12052 (f_12052 tab)) := by
  refine px_mth hn (by decide +kernel) (fun av σ k hS => ?_) (fun C hT hC av σ k hS => ?_)
  · obtain ⟨x0, av0, e0, h0⟩ := px_r1_spec hS
    obtain ⟨x1, av1, e1, h1⟩ := px_i1_spec h0
    obtain ⟨ez, hs⟩ := h1
    subst ez
    subst e1
    subst e0
    exact Nat.le_of_ble_eq_true rfl
  · obtain ⟨x0, av0, e0, h0⟩ := px_r1_spec hS
    obtain ⟨x1, av1, e1, h1⟩ := px_i1_spec h0
    obtain ⟨ez, hs⟩ := h1
    subst ez
    subst e1
    subst e0
    subst hT
    refine px_runG (h - 1) ck_12052 [(1002, Sg_1002 (f_1002 (px_tb C))), (12056, Sg_12056 (f_12056 (px_tb C)))] [] 80 hC (px_sp1 (mf_1002 hn (by omega)) (px_sp1 (mf_12056 hn (by omega)) px_nosp)) (by omega) px_nocut (fun G Jf hG hJf => ?_)
    unfold f_12052 at hs
    obtain ⟨r1, hc0, hs⟩ := oW_bx hs
    by_cases hc1 : r1 = nI 0
    · replace hs := bW_t hs hc1
      simp only [↓hG, ↓hJf, ↓px_vc, ↓px_ex, ↓px_jp, ↓px_gi, ↓px_gl, ↓px_gr, ↓px_s1, ↓px_s2, ↓px_nl, ↓px_i1, ↓px_l1, ↓px_r1_o, ↓px_q1, ↓px_i2, ↓px_l2, ↓px_il, ↓px_d0, ↓px_d1, ↓px_d2, ↓px_pop, px_sz, ↓px_sp, ↓px_rd, ↓px_rf, ↓pn_xf, ↓px_pt, ↓px_rok, ↓px_rv_o, ↓px_fill, ↓px_sl, ↓px_sw, ↓pn_SW, lc_lt, lc_ge, lc_gt, lc_le, lc_eq, ↓reduceIte, Nat.reduceEqDiff, Nat.reduceLeDiff, Nat.reduceAdd, Nat.reduceSub, reduceCtorEq, List.length_cons, List.length_nil, Option.toList_some, Option.toList_none, List.cons_append, List.nil_append, true_and, and_true, false_and, and_false, true_or, or_true, false_or, or_false, and_self, or_self, not_false_eq_true, not_true_eq_false, false_implies, forall_const, true_implies, eq_self, ↓kI_s, ↓kJ_s, ↓kN_s, ↓kO_s, ↓kZ_s, ↓kE_s, oW_some, px_arr_s, nI_10f, ↓bk_12052, ↓pn_i12052, ↓Sg_1002, ↓Sg_12056, hc0, eq_true hc1]
      rw [oW_some] at hs
      exact hs
    · replace hs := bW_f hs hc1
      obtain ⟨hc2, hs⟩ := oW_gx hs
      obtain ⟨n2, hc3, hs⟩ := oW_bx hs
      obtain ⟨t3, l4, hc4, hs⟩ := oW_ax hs
      obtain ⟨hc5, hs⟩ := oW_gx hs
      obtain ⟨hc6, hs⟩ := oW_gx hs
      obtain ⟨n5, hc7, hs⟩ := oW_bx hs
      obtain ⟨hc8, hs⟩ := oW_gx hs
      obtain ⟨n6, hc9, hs⟩ := oW_bx hs
      obtain ⟨q7, hc10, hs⟩ := oW_bx hs
      obtain ⟨n8, hc11, hs⟩ := oW_bx hs
      obtain ⟨t9, l10, hc12, hs⟩ := oW_ax hs
      obtain ⟨hc13, hs⟩ := oW_gx hs
      obtain ⟨hc14, hs⟩ := oW_gx hs
      simp only [↓hG, ↓hJf, ↓px_vc, ↓px_ex, ↓px_jp, ↓px_gi, ↓px_gl, ↓px_gr, ↓px_s1, ↓px_s2, ↓px_nl, ↓px_i1, ↓px_l1, ↓px_r1_o, ↓px_q1, ↓px_i2, ↓px_l2, ↓px_il, ↓px_d0, ↓px_d1, ↓px_d2, ↓px_pop, px_sz, ↓px_sp, ↓px_rd, ↓px_rf, ↓pn_xf, ↓px_pt, ↓px_rok, ↓px_rv_o, ↓px_fill, ↓px_sl, ↓px_sw, ↓pn_SW, lc_lt, lc_ge, lc_gt, lc_le, lc_eq, ↓reduceIte, Nat.reduceEqDiff, Nat.reduceLeDiff, Nat.reduceAdd, Nat.reduceSub, reduceCtorEq, List.length_cons, List.length_nil, Option.toList_some, Option.toList_none, List.cons_append, List.nil_append, true_and, and_true, false_and, and_false, true_or, or_true, false_or, or_false, and_self, or_self, not_false_eq_true, not_true_eq_false, false_implies, forall_const, true_implies, eq_self, ↓kI_s, ↓kJ_s, ↓kN_s, ↓kO_s, ↓kZ_s, ↓kE_s, oW_some, px_arr_s, nI_10f, ↓bk_12052, ↓pn_i12052, ↓Sg_1002, ↓Sg_12056, hc0, eq_false hc1, eq_true hc2, hc3, hc4, eq_true hc5, eq_true hc6, hc7, eq_true hc8, hc9, hc10, hc11, hc12, eq_true hc13, eq_true hc14]
      rw [oW_some] at hs
      exact hs
def Sg_12053 (g : px_M → Nat → Int32 → Option (Int32 × px_M)) : px_S := fun av σ k => px_r1 av (fun x0 av => px_i1 av (fun x1 av => av = [] ∧ oW (g σ x0 x1) (fun q => k (some (.inl q.1)) q.2)))
/-- NoThree.restore(I)I -/
noncomputable def f_12053 (tab : px_T) (σ : px_M) (x0 : Nat) (x1 : Int32) : Option (Int32 × px_M) := (f_12056 tab σ x1).bind fun r1 => bn (r1 = nI 0) (gd (px_obj (px_lay tab x0) 12) ((((σ).2.2 x0 2)).bind fun n2 => oA (px_lay tab n2) fun t3 l4 => gd (t3 = 1 ∨ t3 = 2 ∨ t3 = 10) (gd (vp_in x1 l4) (bn ((px_av t3 σ n2 (x1).toNatClampNeg) = nI 0) ((((σ).2.2 x0 1)).bind fun n5 => oA (px_lay tab n5) fun t6 l7 => gd (t6 = 4) (gd (vp_in x1 l7) ((((σ).2.2 x0 0)).bind fun n8 => gd (px_obj (px_lay tab n8) 1) ((((σ).2.2 n5 (x1).toNatClampNeg)).bind fun n9 => (f_1002 tab σ n8 n9).bind fun q10 => some (((nI 0), q10)))))) (some (((-5), σ))))))) (some (((-2), σ)))
set_option maxHeartbeats 4000000 in
set_option maxRecDepth 100000 in
theorem mf_12053 {tab : px_T} (hn : px_nd tab) {h : Nat} (hh : 3 ≤ h) : px_Ok tab pn_i12053 h (Sg_12053 (f_12053 tab)) := by
  refine px_mth hn (by decide +kernel) (fun av σ k hS => ?_) (fun C hT hC av σ k hS => ?_)
  · obtain ⟨x0, av0, e0, h0⟩ := px_r1_spec hS
    obtain ⟨x1, av1, e1, h1⟩ := px_i1_spec h0
    obtain ⟨ez, hs⟩ := h1
    subst ez
    subst e1
    subst e0
    exact Nat.le_of_ble_eq_true rfl
  · obtain ⟨x0, av0, e0, h0⟩ := px_r1_spec hS
    obtain ⟨x1, av1, e1, h1⟩ := px_i1_spec h0
    obtain ⟨ez, hs⟩ := h1
    subst ez
    subst e1
    subst e0
    subst hT
    refine px_runG (h - 1) ck_12053 [(1002, Sg_1002 (f_1002 (px_tb C))), (12056, Sg_12056 (f_12056 (px_tb C)))] [] 80 hC (px_sp1 (mf_1002 hn (by omega)) (px_sp1 (mf_12056 hn (by omega)) px_nosp)) (by omega) px_nocut (fun G Jf hG hJf => ?_)
    unfold f_12053 at hs
    obtain ⟨r1, hc0, hs⟩ := oW_bx hs
    by_cases hc1 : r1 = nI 0
    · replace hs := bW_t hs hc1
      simp only [↓hG, ↓hJf, ↓px_vc, ↓px_ex, ↓px_jp, ↓px_gi, ↓px_gl, ↓px_gr, ↓px_s1, ↓px_s2, ↓px_nl, ↓px_i1, ↓px_l1, ↓px_r1_o, ↓px_q1, ↓px_i2, ↓px_l2, ↓px_il, ↓px_d0, ↓px_d1, ↓px_d2, ↓px_pop, px_sz, ↓px_sp, ↓px_rd, ↓px_rf, ↓pn_xf, ↓px_pt, ↓px_rok, ↓px_rv_o, ↓px_fill, ↓px_sl, ↓px_sw, ↓pn_SW, lc_lt, lc_ge, lc_gt, lc_le, lc_eq, ↓reduceIte, Nat.reduceEqDiff, Nat.reduceLeDiff, Nat.reduceAdd, Nat.reduceSub, reduceCtorEq, List.length_cons, List.length_nil, Option.toList_some, Option.toList_none, List.cons_append, List.nil_append, true_and, and_true, false_and, and_false, true_or, or_true, false_or, or_false, and_self, or_self, not_false_eq_true, not_true_eq_false, false_implies, forall_const, true_implies, eq_self, ↓kI_s, ↓kJ_s, ↓kN_s, ↓kO_s, ↓kZ_s, ↓kE_s, oW_some, px_arr_s, nI_10f, ↓bk_12053, ↓pn_i12053, ↓Sg_1002, ↓Sg_12056, hc0, eq_true hc1]
      rw [oW_some] at hs
      exact hs
    · replace hs := bW_f hs hc1
      obtain ⟨hc2, hs⟩ := oW_gx hs
      obtain ⟨n2, hc3, hs⟩ := oW_bx hs
      obtain ⟨t3, l4, hc4, hs⟩ := oW_ax hs
      obtain ⟨hc5, hs⟩ := oW_gx hs
      obtain ⟨hc6, hs⟩ := oW_gx hs
      by_cases hc7 : (px_av t3 σ n2 (x1).toNatClampNeg) = nI 0
      · replace hs := bW_t hs hc7
        simp only [↓hG, ↓hJf, ↓px_vc, ↓px_ex, ↓px_jp, ↓px_gi, ↓px_gl, ↓px_gr, ↓px_s1, ↓px_s2, ↓px_nl, ↓px_i1, ↓px_l1, ↓px_r1_o, ↓px_q1, ↓px_i2, ↓px_l2, ↓px_il, ↓px_d0, ↓px_d1, ↓px_d2, ↓px_pop, px_sz, ↓px_sp, ↓px_rd, ↓px_rf, ↓pn_xf, ↓px_pt, ↓px_rok, ↓px_rv_o, ↓px_fill, ↓px_sl, ↓px_sw, ↓pn_SW, lc_lt, lc_ge, lc_gt, lc_le, lc_eq, ↓reduceIte, Nat.reduceEqDiff, Nat.reduceLeDiff, Nat.reduceAdd, Nat.reduceSub, reduceCtorEq, List.length_cons, List.length_nil, Option.toList_some, Option.toList_none, List.cons_append, List.nil_append, true_and, and_true, false_and, and_false, true_or, or_true, false_or, or_false, and_self, or_self, not_false_eq_true, not_true_eq_false, false_implies, forall_const, true_implies, eq_self, ↓kI_s, ↓kJ_s, ↓kN_s, ↓kO_s, ↓kZ_s, ↓kE_s, oW_some, px_arr_s, nI_10f, ↓bk_12053, ↓pn_i12053, ↓Sg_1002, ↓Sg_12056, hc0, eq_false hc1, eq_true hc2, hc3, hc4, eq_true hc5, eq_true hc6, eq_true hc7]
        rw [oW_some] at hs
        exact hs
      · replace hs := bW_f hs hc7
        obtain ⟨n5, hc8, hs⟩ := oW_bx hs
        obtain ⟨t6, l7, hc9, hs⟩ := oW_ax hs
        obtain ⟨hc10, hs⟩ := oW_gx hs
        obtain ⟨hc11, hs⟩ := oW_gx hs
        obtain ⟨n8, hc12, hs⟩ := oW_bx hs
        obtain ⟨hc13, hs⟩ := oW_gx hs
        obtain ⟨n9, hc14, hs⟩ := oW_bx hs
        obtain ⟨q10, hc15, hs⟩ := oW_bx hs
        simp only [↓hG, ↓hJf, ↓px_vc, ↓px_ex, ↓px_jp, ↓px_gi, ↓px_gl, ↓px_gr, ↓px_s1, ↓px_s2, ↓px_nl, ↓px_i1, ↓px_l1, ↓px_r1_o, ↓px_q1, ↓px_i2, ↓px_l2, ↓px_il, ↓px_d0, ↓px_d1, ↓px_d2, ↓px_pop, px_sz, ↓px_sp, ↓px_rd, ↓px_rf, ↓pn_xf, ↓px_pt, ↓px_rok, ↓px_rv_o, ↓px_fill, ↓px_sl, ↓px_sw, ↓pn_SW, lc_lt, lc_ge, lc_gt, lc_le, lc_eq, ↓reduceIte, Nat.reduceEqDiff, Nat.reduceLeDiff, Nat.reduceAdd, Nat.reduceSub, reduceCtorEq, List.length_cons, List.length_nil, Option.toList_some, Option.toList_none, List.cons_append, List.nil_append, true_and, and_true, false_and, and_false, true_or, or_true, false_or, or_false, and_self, or_self, not_false_eq_true, not_true_eq_false, false_implies, forall_const, true_implies, eq_self, ↓kI_s, ↓kJ_s, ↓kN_s, ↓kO_s, ↓kZ_s, ↓kE_s, oW_some, px_arr_s, nI_10f, ↓bk_12053, ↓pn_i12053, ↓Sg_1002, ↓Sg_12056, hc0, eq_false hc1, eq_true hc2, hc3, hc4, eq_true hc5, eq_true hc6, eq_false hc7, hc8, hc9, eq_true hc10, eq_true hc11, hc12, eq_true hc13, hc14, hc15]
        rw [oW_some] at hs
        exact hs
def Sg_12054 (g : px_M → Nat → Int32 → Option (Int32)) : px_S := fun av σ k => px_r1 av (fun x0 av => px_i1 av (fun x1 av => av = [] ∧ oW (g σ x0 x1) (fun r => k (some (.inl r)) σ)))
/-- NoThree.count(I)I -/
noncomputable def f_12054 (tab : px_T) (σ : px_M) (x0 : Nat) (x1 : Int32) : Option (Int32) := if x1 = nI 0 then (gd (px_obj (px_lay tab x0) 12) ((((σ).2.2 x0 0)).bind fun n1 => gd (px_obj (px_lay tab n1) 1) ((((σ).2.2 n1 0)).bind fun n2 => gd (px_obj (px_lay tab n2) 11) (some (((σ).1 n2 0)))))) else (if x1 = nI 1 then (gd (px_obj (px_lay tab x0) 12) ((((σ).2.2 x0 0)).bind fun n3 => gd (px_obj (px_lay tab n3) 1) ((((σ).2.2 n3 0)).bind fun n4 => gd (px_obj (px_lay tab n4) 11) ((f_11015 tab σ n4).bind fun r5 => some (r5))))) else (if x1 = nI 2 then (gd (px_obj (px_lay tab x0) 12) ((((σ).2.2 x0 0)).bind fun n6 => gd (px_obj (px_lay tab n6) 1) ((((σ).2.2 n6 1)).bind fun n7 => gd (px_obj (px_lay tab n7) 10) (some (((σ).1 n7 0)))))) else (if x1 = nI 3 then (gd (px_obj (px_lay tab x0) 12) ((((σ).2.2 x0 0)).bind fun n8 => gd (px_obj (px_lay tab n8) 1) (some (((σ).1 n8 3))))) else (if x1 = nI 4 then (gd (px_obj (px_lay tab x0) 12) ((((σ).2.2 x0 0)).bind fun n9 => gd (px_obj (px_lay tab n9) 1) ((((σ).2.2 n9 0)).bind fun n10 => gd (px_obj (px_lay tab n10) 11) ((f_11023 tab σ n10).bind fun r11 => some (r11))))) else (if x1 = nI 5 then (gd (px_obj (px_lay tab x0) 12) ((((σ).2.2 x0 0)).bind fun n12 => gd (px_obj (px_lay tab n12) 1) ((((σ).2.2 n12 0)).bind fun n13 => gd (px_obj (px_lay tab n13) 11) ((f_11021 tab σ n13).bind fun r14 => some (r14))))) else (if x1 = nI 6 then (gd (px_obj (px_lay tab x0) 12) ((((σ).2.2 x0 3)).bind fun n15 => gd (px_obj (px_lay tab n15) 9) (some (((σ).1 n15 0))))) else (if x1 = nI 7 then (gd (px_obj (px_lay tab x0) 12) ((((σ).2.2 x0 0)).bind fun n16 => gd (px_obj (px_lay tab n16) 1) (some (((σ).1 n16 2))))) else (some ((-1))))))))))
set_option maxHeartbeats 4000000 in
set_option maxRecDepth 100000 in
theorem mf_12054 {tab : px_T} (hn : px_nd tab) {h : Nat} (hh : 4 ≤ h) : px_Ok tab pn_i12054 h (Sg_12054 (f_12054 tab)) := by
  refine px_mth hn (by decide +kernel) (fun av σ k hS => ?_) (fun C hT hC av σ k hS => ?_)
  · obtain ⟨x0, av0, e0, h0⟩ := px_r1_spec hS
    obtain ⟨x1, av1, e1, h1⟩ := px_i1_spec h0
    obtain ⟨ez, hs⟩ := h1
    subst ez
    subst e1
    subst e0
    exact Nat.le_of_ble_eq_true rfl
  · obtain ⟨x0, av0, e0, h0⟩ := px_r1_spec hS
    obtain ⟨x1, av1, e1, h1⟩ := px_i1_spec h0
    obtain ⟨ez, hs⟩ := h1
    subst ez
    subst e1
    subst e0
    subst hT
    refine px_runG (h - 1) ck_12054 [(11015, Sg_11015 (f_11015 (px_tb C))), (11021, Sg_11021 (f_11021 (px_tb C))), (11023, Sg_11023 (f_11023 (px_tb C)))] [] 80 hC (px_sp1 (mf_11015 hn (by omega)) (px_sp1 (mf_11021 hn (by omega)) (px_sp1 (mf_11023 hn (by omega)) px_nosp))) (by omega) px_nocut (fun G Jf hG hJf => ?_)
    unfold f_12054 at hs
    by_cases hc0 : x1 = nI 0
    · replace hs := oW_t hs hc0
      obtain ⟨hc1, hs⟩ := oW_gx hs
      obtain ⟨n1, hc2, hs⟩ := oW_bx hs
      obtain ⟨hc3, hs⟩ := oW_gx hs
      obtain ⟨n2, hc4, hs⟩ := oW_bx hs
      obtain ⟨hc5, hs⟩ := oW_gx hs
      simp only [↓hG, ↓hJf, ↓px_vc, ↓px_ex, ↓px_jp, ↓px_gi, ↓px_gl, ↓px_gr, ↓px_s1, ↓px_s2, ↓px_nl, ↓px_i1, ↓px_l1, ↓px_r1_o, ↓px_q1, ↓px_i2, ↓px_l2, ↓px_il, ↓px_d0, ↓px_d1, ↓px_d2, ↓px_pop, px_sz, ↓px_sp, ↓px_rd, ↓px_rf, ↓pn_xf, ↓px_pt, ↓px_rok, ↓px_rv_o, ↓px_fill, ↓px_sl, ↓px_sw, ↓pn_SW, lc_lt, lc_ge, lc_gt, lc_le, lc_eq, ↓reduceIte, Nat.reduceEqDiff, Nat.reduceLeDiff, Nat.reduceAdd, Nat.reduceSub, reduceCtorEq, List.length_cons, List.length_nil, Option.toList_some, Option.toList_none, List.cons_append, List.nil_append, true_and, and_true, false_and, and_false, true_or, or_true, false_or, or_false, and_self, or_self, not_false_eq_true, not_true_eq_false, false_implies, forall_const, true_implies, eq_self, ↓kI_s, ↓kJ_s, ↓kN_s, ↓kO_s, ↓kZ_s, ↓kE_s, oW_some, px_arr_s, nI_10f, ↓bk_12054, ↓pn_i12054, ↓Sg_11015, ↓Sg_11021, ↓Sg_11023, eq_true hc0, eq_true hc1, hc2, eq_true hc3, hc4, eq_true hc5]
      rw [oW_some] at hs
      exact hs
    · replace hs := oW_f hs hc0
      by_cases hc1 : x1 = nI 1
      · replace hs := oW_t hs hc1
        obtain ⟨hc2, hs⟩ := oW_gx hs
        obtain ⟨n3, hc3, hs⟩ := oW_bx hs
        obtain ⟨hc4, hs⟩ := oW_gx hs
        obtain ⟨n4, hc5, hs⟩ := oW_bx hs
        obtain ⟨hc6, hs⟩ := oW_gx hs
        obtain ⟨r5, hc7, hs⟩ := oW_bx hs
        simp only [↓hG, ↓hJf, ↓px_vc, ↓px_ex, ↓px_jp, ↓px_gi, ↓px_gl, ↓px_gr, ↓px_s1, ↓px_s2, ↓px_nl, ↓px_i1, ↓px_l1, ↓px_r1_o, ↓px_q1, ↓px_i2, ↓px_l2, ↓px_il, ↓px_d0, ↓px_d1, ↓px_d2, ↓px_pop, px_sz, ↓px_sp, ↓px_rd, ↓px_rf, ↓pn_xf, ↓px_pt, ↓px_rok, ↓px_rv_o, ↓px_fill, ↓px_sl, ↓px_sw, ↓pn_SW, lc_lt, lc_ge, lc_gt, lc_le, lc_eq, ↓reduceIte, Nat.reduceEqDiff, Nat.reduceLeDiff, Nat.reduceAdd, Nat.reduceSub, reduceCtorEq, List.length_cons, List.length_nil, Option.toList_some, Option.toList_none, List.cons_append, List.nil_append, true_and, and_true, false_and, and_false, true_or, or_true, false_or, or_false, and_self, or_self, not_false_eq_true, not_true_eq_false, false_implies, forall_const, true_implies, eq_self, ↓kI_s, ↓kJ_s, ↓kN_s, ↓kO_s, ↓kZ_s, ↓kE_s, oW_some, px_arr_s, nI_10f, ↓bk_12054, ↓pn_i12054, ↓Sg_11015, ↓Sg_11021, ↓Sg_11023, eq_false hc0, eq_true hc1, eq_true hc2, hc3, eq_true hc4, hc5, eq_true hc6, hc7]
        rw [oW_some] at hs
        exact hs
      · replace hs := oW_f hs hc1
        by_cases hc2 : x1 = nI 2
        · replace hs := oW_t hs hc2
          obtain ⟨hc3, hs⟩ := oW_gx hs
          obtain ⟨n6, hc4, hs⟩ := oW_bx hs
          obtain ⟨hc5, hs⟩ := oW_gx hs
          obtain ⟨n7, hc6, hs⟩ := oW_bx hs
          obtain ⟨hc7, hs⟩ := oW_gx hs
          simp only [↓hG, ↓hJf, ↓px_vc, ↓px_ex, ↓px_jp, ↓px_gi, ↓px_gl, ↓px_gr, ↓px_s1, ↓px_s2, ↓px_nl, ↓px_i1, ↓px_l1, ↓px_r1_o, ↓px_q1, ↓px_i2, ↓px_l2, ↓px_il, ↓px_d0, ↓px_d1, ↓px_d2, ↓px_pop, px_sz, ↓px_sp, ↓px_rd, ↓px_rf, ↓pn_xf, ↓px_pt, ↓px_rok, ↓px_rv_o, ↓px_fill, ↓px_sl, ↓px_sw, ↓pn_SW, lc_lt, lc_ge, lc_gt, lc_le, lc_eq, ↓reduceIte, Nat.reduceEqDiff, Nat.reduceLeDiff, Nat.reduceAdd, Nat.reduceSub, reduceCtorEq, List.length_cons, List.length_nil, Option.toList_some, Option.toList_none, List.cons_append, List.nil_append, true_and, and_true, false_and, and_false, true_or, or_true, false_or, or_false, and_self, or_self, not_false_eq_true, not_true_eq_false, false_implies, forall_const, true_implies, eq_self, ↓kI_s, ↓kJ_s, ↓kN_s, ↓kO_s, ↓kZ_s, ↓kE_s, oW_some, px_arr_s, nI_10f, ↓bk_12054, ↓pn_i12054, ↓Sg_11015, ↓Sg_11021, ↓Sg_11023, eq_false hc0, eq_false hc1, eq_true hc2, eq_true hc3, hc4, eq_true hc5, hc6, eq_true hc7]
          rw [oW_some] at hs
          exact hs
        · replace hs := oW_f hs hc2
          by_cases hc3 : x1 = nI 3
          · replace hs := oW_t hs hc3
            obtain ⟨hc4, hs⟩ := oW_gx hs
            obtain ⟨n8, hc5, hs⟩ := oW_bx hs
            obtain ⟨hc6, hs⟩ := oW_gx hs
            simp only [↓hG, ↓hJf, ↓px_vc, ↓px_ex, ↓px_jp, ↓px_gi, ↓px_gl, ↓px_gr, ↓px_s1, ↓px_s2, ↓px_nl, ↓px_i1, ↓px_l1, ↓px_r1_o, ↓px_q1, ↓px_i2, ↓px_l2, ↓px_il, ↓px_d0, ↓px_d1, ↓px_d2, ↓px_pop, px_sz, ↓px_sp, ↓px_rd, ↓px_rf, ↓pn_xf, ↓px_pt, ↓px_rok, ↓px_rv_o, ↓px_fill, ↓px_sl, ↓px_sw, ↓pn_SW, lc_lt, lc_ge, lc_gt, lc_le, lc_eq, ↓reduceIte, Nat.reduceEqDiff, Nat.reduceLeDiff, Nat.reduceAdd, Nat.reduceSub, reduceCtorEq, List.length_cons, List.length_nil, Option.toList_some, Option.toList_none, List.cons_append, List.nil_append, true_and, and_true, false_and, and_false, true_or, or_true, false_or, or_false, and_self, or_self, not_false_eq_true, not_true_eq_false, false_implies, forall_const, true_implies, eq_self, ↓kI_s, ↓kJ_s, ↓kN_s, ↓kO_s, ↓kZ_s, ↓kE_s, oW_some, px_arr_s, nI_10f, ↓bk_12054, ↓pn_i12054, ↓Sg_11015, ↓Sg_11021, ↓Sg_11023, eq_false hc0, eq_false hc1, eq_false hc2, eq_true hc3, eq_true hc4, hc5, eq_true hc6]
            rw [oW_some] at hs
            exact hs
          · replace hs := oW_f hs hc3
            by_cases hc4 : x1 = nI 4
            · replace hs := oW_t hs hc4
              obtain ⟨hc5, hs⟩ := oW_gx hs
              obtain ⟨n9, hc6, hs⟩ := oW_bx hs
              obtain ⟨hc7, hs⟩ := oW_gx hs
              obtain ⟨n10, hc8, hs⟩ := oW_bx hs
              obtain ⟨hc9, hs⟩ := oW_gx hs
              obtain ⟨r11, hc10, hs⟩ := oW_bx hs
              simp only [↓hG, ↓hJf, ↓px_vc, ↓px_ex, ↓px_jp, ↓px_gi, ↓px_gl, ↓px_gr, ↓px_s1, ↓px_s2, ↓px_nl, ↓px_i1, ↓px_l1, ↓px_r1_o, ↓px_q1, ↓px_i2, ↓px_l2, ↓px_il, ↓px_d0, ↓px_d1, ↓px_d2, ↓px_pop, px_sz, ↓px_sp, ↓px_rd, ↓px_rf, ↓pn_xf, ↓px_pt, ↓px_rok, ↓px_rv_o, ↓px_fill, ↓px_sl, ↓px_sw, ↓pn_SW, lc_lt, lc_ge, lc_gt, lc_le, lc_eq, ↓reduceIte, Nat.reduceEqDiff, Nat.reduceLeDiff, Nat.reduceAdd, Nat.reduceSub, reduceCtorEq, List.length_cons, List.length_nil, Option.toList_some, Option.toList_none, List.cons_append, List.nil_append, true_and, and_true, false_and, and_false, true_or, or_true, false_or, or_false, and_self, or_self, not_false_eq_true, not_true_eq_false, false_implies, forall_const, true_implies, eq_self, ↓kI_s, ↓kJ_s, ↓kN_s, ↓kO_s, ↓kZ_s, ↓kE_s, oW_some, px_arr_s, nI_10f, ↓bk_12054, ↓pn_i12054, ↓Sg_11015, ↓Sg_11021, ↓Sg_11023, eq_false hc0, eq_false hc1, eq_false hc2, eq_false hc3, eq_true hc4, eq_true hc5, hc6, eq_true hc7, hc8, eq_true hc9, hc10]
              rw [oW_some] at hs
              exact hs
            · replace hs := oW_f hs hc4
              by_cases hc5 : x1 = nI 5
              · replace hs := oW_t hs hc5
                obtain ⟨hc6, hs⟩ := oW_gx hs
                obtain ⟨n12, hc7, hs⟩ := oW_bx hs
                obtain ⟨hc8, hs⟩ := oW_gx hs
                obtain ⟨n13, hc9, hs⟩ := oW_bx hs
                obtain ⟨hc10, hs⟩ := oW_gx hs
                obtain ⟨r14, hc11, hs⟩ := oW_bx hs
                simp only [↓hG, ↓hJf, ↓px_vc, ↓px_ex, ↓px_jp, ↓px_gi, ↓px_gl, ↓px_gr, ↓px_s1, ↓px_s2, ↓px_nl, ↓px_i1, ↓px_l1, ↓px_r1_o, ↓px_q1, ↓px_i2, ↓px_l2, ↓px_il, ↓px_d0, ↓px_d1, ↓px_d2, ↓px_pop, px_sz, ↓px_sp, ↓px_rd, ↓px_rf, ↓pn_xf, ↓px_pt, ↓px_rok, ↓px_rv_o, ↓px_fill, ↓px_sl, ↓px_sw, ↓pn_SW, lc_lt, lc_ge, lc_gt, lc_le, lc_eq, ↓reduceIte, Nat.reduceEqDiff, Nat.reduceLeDiff, Nat.reduceAdd, Nat.reduceSub, reduceCtorEq, List.length_cons, List.length_nil, Option.toList_some, Option.toList_none, List.cons_append, List.nil_append, true_and, and_true, false_and, and_false, true_or, or_true, false_or, or_false, and_self, or_self, not_false_eq_true, not_true_eq_false, false_implies, forall_const, true_implies, eq_self, ↓kI_s, ↓kJ_s, ↓kN_s, ↓kO_s, ↓kZ_s, ↓kE_s, oW_some, px_arr_s, nI_10f, ↓bk_12054, ↓pn_i12054, ↓Sg_11015, ↓Sg_11021, ↓Sg_11023, eq_false hc0, eq_false hc1, eq_false hc2, eq_false hc3, eq_false hc4, eq_true hc5, eq_true hc6, hc7, eq_true hc8, hc9, eq_true hc10, hc11]
                rw [oW_some] at hs
                exact hs
              · replace hs := oW_f hs hc5
                by_cases hc6 : x1 = nI 6
                · replace hs := oW_t hs hc6
                  obtain ⟨hc7, hs⟩ := oW_gx hs
                  obtain ⟨n15, hc8, hs⟩ := oW_bx hs
                  obtain ⟨hc9, hs⟩ := oW_gx hs
                  simp only [↓hG, ↓hJf, ↓px_vc, ↓px_ex, ↓px_jp, ↓px_gi, ↓px_gl, ↓px_gr, ↓px_s1, ↓px_s2, ↓px_nl, ↓px_i1, ↓px_l1, ↓px_r1_o, ↓px_q1, ↓px_i2, ↓px_l2, ↓px_il, ↓px_d0, ↓px_d1, ↓px_d2, ↓px_pop, px_sz, ↓px_sp, ↓px_rd, ↓px_rf, ↓pn_xf, ↓px_pt, ↓px_rok, ↓px_rv_o, ↓px_fill, ↓px_sl, ↓px_sw, ↓pn_SW, lc_lt, lc_ge, lc_gt, lc_le, lc_eq, ↓reduceIte, Nat.reduceEqDiff, Nat.reduceLeDiff, Nat.reduceAdd, Nat.reduceSub, reduceCtorEq, List.length_cons, List.length_nil, Option.toList_some, Option.toList_none, List.cons_append, List.nil_append, true_and, and_true, false_and, and_false, true_or, or_true, false_or, or_false, and_self, or_self, not_false_eq_true, not_true_eq_false, false_implies, forall_const, true_implies, eq_self, ↓kI_s, ↓kJ_s, ↓kN_s, ↓kO_s, ↓kZ_s, ↓kE_s, oW_some, px_arr_s, nI_10f, ↓bk_12054, ↓pn_i12054, ↓Sg_11015, ↓Sg_11021, ↓Sg_11023, eq_false hc0, eq_false hc1, eq_false hc2, eq_false hc3, eq_false hc4, eq_false hc5, eq_true hc6, eq_true hc7, hc8, eq_true hc9]
                  rw [oW_some] at hs
                  exact hs
                · replace hs := oW_f hs hc6
                  by_cases hc7 : x1 = nI 7
                  · replace hs := oW_t hs hc7
                    obtain ⟨hc8, hs⟩ := oW_gx hs
                    obtain ⟨n16, hc9, hs⟩ := oW_bx hs
                    obtain ⟨hc10, hs⟩ := oW_gx hs
                    simp only [↓hG, ↓hJf, ↓px_vc, ↓px_ex, ↓px_jp, ↓px_gi, ↓px_gl, ↓px_gr, ↓px_s1, ↓px_s2, ↓px_nl, ↓px_i1, ↓px_l1, ↓px_r1_o, ↓px_q1, ↓px_i2, ↓px_l2, ↓px_il, ↓px_d0, ↓px_d1, ↓px_d2, ↓px_pop, px_sz, ↓px_sp, ↓px_rd, ↓px_rf, ↓pn_xf, ↓px_pt, ↓px_rok, ↓px_rv_o, ↓px_fill, ↓px_sl, ↓px_sw, ↓pn_SW, lc_lt, lc_ge, lc_gt, lc_le, lc_eq, ↓reduceIte, Nat.reduceEqDiff, Nat.reduceLeDiff, Nat.reduceAdd, Nat.reduceSub, reduceCtorEq, List.length_cons, List.length_nil, Option.toList_some, Option.toList_none, List.cons_append, List.nil_append, true_and, and_true, false_and, and_false, true_or, or_true, false_or, or_false, and_self, or_self, not_false_eq_true, not_true_eq_false, false_implies, forall_const, true_implies, eq_self, ↓kI_s, ↓kJ_s, ↓kN_s, ↓kO_s, ↓kZ_s, ↓kE_s, oW_some, px_arr_s, nI_10f, ↓bk_12054, ↓pn_i12054, ↓Sg_11015, ↓Sg_11021, ↓Sg_11023, eq_false hc0, eq_false hc1, eq_false hc2, eq_false hc3, eq_false hc4, eq_false hc5, eq_false hc6, eq_true hc7, eq_true hc8, hc9, eq_true hc10]
                    rw [oW_some] at hs
                    exact hs
                  · replace hs := oW_f hs hc7
                    simp only [↓hG, ↓hJf, ↓px_vc, ↓px_ex, ↓px_jp, ↓px_gi, ↓px_gl, ↓px_gr, ↓px_s1, ↓px_s2, ↓px_nl, ↓px_i1, ↓px_l1, ↓px_r1_o, ↓px_q1, ↓px_i2, ↓px_l2, ↓px_il, ↓px_d0, ↓px_d1, ↓px_d2, ↓px_pop, px_sz, ↓px_sp, ↓px_rd, ↓px_rf, ↓pn_xf, ↓px_pt, ↓px_rok, ↓px_rv_o, ↓px_fill, ↓px_sl, ↓px_sw, ↓pn_SW, lc_lt, lc_ge, lc_gt, lc_le, lc_eq, ↓reduceIte, Nat.reduceEqDiff, Nat.reduceLeDiff, Nat.reduceAdd, Nat.reduceSub, reduceCtorEq, List.length_cons, List.length_nil, Option.toList_some, Option.toList_none, List.cons_append, List.nil_append, true_and, and_true, false_and, and_false, true_or, or_true, false_or, or_false, and_self, or_self, not_false_eq_true, not_true_eq_false, false_implies, forall_const, true_implies, eq_self, ↓kI_s, ↓kJ_s, ↓kN_s, ↓kO_s, ↓kZ_s, ↓kE_s, oW_some, px_arr_s, nI_10f, ↓bk_12054, ↓pn_i12054, ↓Sg_11015, ↓Sg_11021, ↓Sg_11023, eq_false hc0, eq_false hc1, eq_false hc2, eq_false hc3, eq_false hc4, eq_false hc5, eq_false hc6, eq_false hc7]
                    rw [oW_some] at hs
                    exact hs
