/-! shallow functions, printed by wip/whole/decomp.py -/
def Sg_87 (g : px_M → Nat → Option (Int32 × px_M)) : px_S := fun av σ k => px_r1 av (fun x0 av => av = [] ∧ oW (g σ x0) (fun q => k (some (.inl q.1)) q.2))
/-- NoThreeModel.feasts()I -/
noncomputable def F_87_9 (tab : px_T) (σ : px_M) (x0 : Nat) (x1 : Int32) (x2 : Int32) : Option ((Int32 × Int32) ⊕ (Int32 × px_M)) := gd (px_obj (px_lay tab x0) 0) ((((σ).2.2 x0 1)).bind fun n1 => oA (px_lay tab n1) fun t2 l3 => gd (t2 = 0 ∨ t2 = 11) (gd (vp_in (nI 1) l3) (if ((nI 1) <<< ((px_av t2 σ n1 ((nI 1)).toNatClampNeg) &&& 31)) ≤ x2 then (some (.inr ((x1, σ)))) else (gd (px_obj (px_lay tab x0) 0) ((f_40 tab σ x0 x2).bind fun r4 => if r4 = nI 0 then (some (.inl (((x1 + (nI 0)), (x2 + (nI 1)))))) else (some (.inl (((x1 + (nI 1)), (x2 + (nI 1)))))))))))
noncomputable def f_87_9 (tab : px_T) (σ : px_M) (x0 : Nat) (x1 : Int32) (x2 : Int32) : Option (Int32 × px_M) := lpO (fun s : Int32 × Int32 => F_87_9 tab σ x0 s.1 s.2) (x1, x2)
theorem f_87_9_eq (tab : px_T) (σ : px_M) (x0 : Nat) (x1 : Int32) (x2 : Int32) : f_87_9 tab σ x0 x1 x2 = (F_87_9 tab σ x0 x1 x2).bind (Sum.elim (fun s => f_87_9 tab σ x0 s.1 s.2) some) := lpO_eq _ _
noncomputable def f_87 (tab : px_T) (σ : px_M) (x0 : Nat) : Option (Int32 × px_M) := gd (px_obj (px_lay tab x0) 0) (f_87_9 tab ((px_wi σ x0 0 (nI 0))) x0 ((nI 0)) ((nI 0)))
def kp_87_9 (Q : Nat → Int32 → Int32 → px_M → Prop) : px_P := fun ls st τ => st = [] ∧ kN ls (fun x0 ls => kI ls (fun x1 ls => kI ls (fun x2 ls => kE ls (Q x0 x1 x2 τ))))
theorem kq_87_9 {C : px_C} {k : Option px_V → px_M → Prop} {Q : Nat → Int32 → Int32 → px_M → Prop} (H : ∀ (x0 : Nat) (x1 : Int32) (x2 : Int32) (τ : px_M), Q x0 x1 x2 τ → px_W C k 9 [some (.inr (.inr (some x0))), some (.inl x1), some (.inl x2)] [] τ) : ∀ ls st τ, kp_87_9 Q ls st τ → px_W C k 9 ls st τ := by
  intro ls st τ hz
  obtain ⟨ez, h0⟩ := hz
  obtain ⟨x0, l0, e0, h1⟩ := kN_sp h0
  obtain ⟨x1, l1, e1, h2⟩ := kI_sp h1
  obtain ⟨x2, l2, e2, h3⟩ := kI_sp h2
  obtain ⟨ey, hy⟩ := kE_sp h3
  subst ez
  subst ey
  subst e2
  subst e1
  subst e0
  exact H x0 x1 x2 τ hy
set_option maxHeartbeats 4000000 in
set_option maxRecDepth 100000 in
theorem rl_87_9 {C : px_C} (hn : px_nd (px_tb C)) {h : Nat} (hh : 3 ≤ h) (hC : px_ok C pn_i87 h) {k : Option px_V → px_M → Prop} {x0 : Nat} {σ : px_M} : ∀ s : Int32 × Int32, oW (f_87_9 (px_tb C) σ x0 s.1 s.2) (fun q => k (some (.inl q.1)) q.2) → (fun s : Int32 × Int32 => px_W C k 9 [some (.inr (.inr (some x0))), some (.inl s.1), some (.inl s.2)] [] σ) s := by
  intro s h0
  refine lpO_sound (P := (fun s : Int32 × Int32 => px_W C k 9 [some (.inr (.inr (some x0))), some (.inl s.1), some (.inl s.2)] [] σ)) (fun s hs => ?_) h0
  obtain ⟨x1, x2⟩ := s
  refine px_runG (h - 1) ck_87 [(40, Sg_40 (f_40 (px_tb C)))] [(9, kp_87_9 (fun y0 y1 y2 τ => y0 = x0 ∧ τ = σ ∧ (fun s : Int32 × Int32 => px_W C k 9 [some (.inr (.inr (some x0))), some (.inl s.1), some (.inl s.2)] [] σ) (y1, y2)))] 80 hC (px_sp1 (mf_40 hn (by omega)) px_nosp) (by omega) (px_cut1 (kq_87_9 (fun y0 y1 y2 τ hq => by obtain ⟨rfl, rfl, hq⟩ := hq; exact hq)) px_nocut) (fun G Jf hG hJf => ?_)
  simp only [F_87_9, oW_some, oW_none, oW_bind, oW_map, oW_ite, oW_bn, oW_gd, oW_oA, Sum.elim_inl, Sum.elim_inr, oW_and, true_and, and_true, false_and, and_false, true_or, or_true, false_or, or_false, and_self, or_self, not_false_eq_true, not_true_eq_false, false_implies, forall_const, true_implies, eq_self, ↓reduceIte] at hs
  simp only [↓hG, ↓hJf, ↓px_vc, ↓px_ex, ↓px_jp, ↓px_gi, ↓px_gl, ↓px_gr, ↓px_s1, ↓px_s2, ↓px_nl, ↓px_i1, ↓px_l1, ↓px_r1_o, ↓px_q1, ↓px_i2, ↓px_l2, ↓px_il, ↓px_d0, ↓px_d1, ↓px_d2, ↓px_pop, px_sz, ↓px_sp, ↓px_rd, ↓px_rf, ↓pn_xf, ↓px_pt, ↓px_rok, ↓px_rv_o, ↓px_fill, ↓px_sl, ↓px_sw, ↓pn_SW, lc_lt, lc_ge, lc_gt, lc_le, lc_eq, ↓reduceIte, Nat.reduceEqDiff, Nat.reduceLeDiff, Nat.reduceAdd, Nat.reduceSub, reduceCtorEq, List.length_cons, List.length_nil, Option.toList_some, Option.toList_none, List.cons_append, List.nil_append, true_and, and_true, false_and, and_false, true_or, or_true, false_or, or_false, and_self, or_self, not_false_eq_true, not_true_eq_false, false_implies, forall_const, true_implies, eq_self, ↓kI_s, ↓kJ_s, ↓kN_s, ↓kO_s, ↓kZ_s, ↓kE_s, oW_and, ↓bk_87, ↓pn_i87, oW_some, oW_none, oW_bind, oW_map, oW_ite, oW_bn, oW_gd, oW_oA, Sum.elim_inl, Sum.elim_inr, ↓Sg_40, ↓kp_87_9]
  exact hs
set_option maxHeartbeats 4000000 in
set_option maxRecDepth 100000 in
theorem mf_87 {tab : px_T} (hn : px_nd tab) {h : Nat} (hh : 3 ≤ h) : px_Ok tab pn_i87 h (Sg_87 (f_87 tab)) := by
  refine px_mth hn (by decide +kernel) (fun av σ k hS => ?_) (fun C hT hC av σ k hS => ?_)
  · obtain ⟨x0, av0, e0, h0⟩ := px_r1_spec hS
    obtain ⟨ez, hz⟩ := h0
    subst ez
    subst e0
    exact Nat.le_of_ble_eq_true rfl
  · obtain ⟨x0, av0, e0, h0⟩ := px_r1_spec hS
    obtain ⟨ez, hz⟩ := h0
    subst ez
    subst e0
    subst hT
    refine px_runG (h - 1) ck_87 [] [(9, kp_87_9 (fun y0 y1 y2 τ => oW (f_87_9 (px_tb C) τ y0 y1 y2) (fun q => k (some (.inl q.1)) q.2)))] 80 hC px_nosp (by omega) (px_cut1 (kq_87_9 (fun y0 y1 y2 τ hq => by exact rl_87_9 hn (by omega) hC (y1, y2) hq)) px_nocut) (fun G Jf hG hJf => ?_)
    simp only [f_87, oW_some, oW_none, oW_bind, oW_map, oW_ite, oW_bn, oW_gd, oW_oA, Sum.elim_inl, Sum.elim_inr, oW_and, true_and, and_true, false_and, and_false, true_or, or_true, false_or, or_false, and_self, or_self, not_false_eq_true, not_true_eq_false, false_implies, forall_const, true_implies, eq_self, ↓reduceIte] at hz
    simp only [↓hG, ↓hJf, ↓px_vc, ↓px_ex, ↓px_jp, ↓px_gi, ↓px_gl, ↓px_gr, ↓px_s1, ↓px_s2, ↓px_nl, ↓px_i1, ↓px_l1, ↓px_r1_o, ↓px_q1, ↓px_i2, ↓px_l2, ↓px_il, ↓px_d0, ↓px_d1, ↓px_d2, ↓px_pop, px_sz, ↓px_sp, ↓px_rd, ↓px_rf, ↓pn_xf, ↓px_pt, ↓px_rok, ↓px_rv_o, ↓px_fill, ↓px_sl, ↓px_sw, ↓pn_SW, lc_lt, lc_ge, lc_gt, lc_le, lc_eq, ↓reduceIte, Nat.reduceEqDiff, Nat.reduceLeDiff, Nat.reduceAdd, Nat.reduceSub, reduceCtorEq, List.length_cons, List.length_nil, Option.toList_some, Option.toList_none, List.cons_append, List.nil_append, true_and, and_true, false_and, and_false, true_or, or_true, false_or, or_false, and_self, or_self, not_false_eq_true, not_true_eq_false, false_implies, forall_const, true_implies, eq_self, ↓kI_s, ↓kJ_s, ↓kN_s, ↓kO_s, ↓kZ_s, ↓kE_s, oW_and, ↓bk_87, ↓pn_i87, oW_some, oW_none, oW_bind, oW_map, oW_ite, oW_bn, oW_gd, oW_oA, Sum.elim_inl, Sum.elim_inr, ↓kp_87_9]
    exact hz
def Sg_88 (g : px_M → Nat → Int32 → Option (Int32)) : px_S := fun av σ k => px_r1 av (fun x0 av => px_i1 av (fun x1 av => av = [] ∧ oW (g σ x0 x1) (fun r => k (some (.inl r)) σ)))
/-- NoThreeModel.isFull(I)Z -/
noncomputable def F_88_12 (tab : px_T) (σ : px_M) (x0 : Nat) (x1 : Int32) (x2 : Int32) : Option ((Int32) ⊕ (Int32)) := gd (px_obj (px_lay tab x0) 0) ((((σ).2.2 x0 1)).bind fun n1 => oA (px_lay tab n1) fun t2 l3 => gd (t2 = 0 ∨ t2 = 11) (gd (vp_in (nI 1) l3) (if (px_av t2 σ n1 ((nI 1)).toNatClampNeg) ≤ x2 then (some (.inr ((nI 1)))) else ((f_14 tab σ ((x1).toInt64) x2).bind fun r4 => bn (r4 = nI 0) (some (.inl ((x2 + (nI 1))))) (gd (px_obj (px_lay tab x0) 0) ((f_31 tab σ x0 x2).bind fun r5 => bn ((r5 &&& x1) = nI 0) (some (.inl ((x2 + (nI 1))))) (some (.inr ((nI 0))))))))))
noncomputable def f_88_12 (tab : px_T) (σ : px_M) (x0 : Nat) (x1 : Int32) (x2 : Int32) : Option (Int32) := lpO (fun s : Int32 => F_88_12 tab σ x0 x1 s) x2
theorem f_88_12_eq (tab : px_T) (σ : px_M) (x0 : Nat) (x1 : Int32) (x2 : Int32) : f_88_12 tab σ x0 x1 x2 = (F_88_12 tab σ x0 x1 x2).bind (Sum.elim (fun s => f_88_12 tab σ x0 x1 s) some) := lpO_eq _ _
noncomputable def f_88 (tab : px_T) (σ : px_M) (x0 : Nat) (x1 : Int32) : Option (Int32) := gd (px_obj (px_lay tab x0) 0) ((f_40 tab σ x0 x1).bind fun r1 => bn (r1 = nI 0) (f_88_12 tab σ x0 x1 ((nI 0))) (some ((nI 0))))
def kp_88_12 (Q : Nat → Int32 → Int32 → px_M → Prop) : px_P := fun ls st τ => st = [] ∧ kN ls (fun x0 ls => kI ls (fun x1 ls => kI ls (fun x2 ls => kE ls (Q x0 x1 x2 τ))))
theorem kq_88_12 {C : px_C} {k : Option px_V → px_M → Prop} {Q : Nat → Int32 → Int32 → px_M → Prop} (H : ∀ (x0 : Nat) (x1 : Int32) (x2 : Int32) (τ : px_M), Q x0 x1 x2 τ → px_W C k 12 [some (.inr (.inr (some x0))), some (.inl x1), some (.inl x2)] [] τ) : ∀ ls st τ, kp_88_12 Q ls st τ → px_W C k 12 ls st τ := by
  intro ls st τ hz
  obtain ⟨ez, h0⟩ := hz
  obtain ⟨x0, l0, e0, h1⟩ := kN_sp h0
  obtain ⟨x1, l1, e1, h2⟩ := kI_sp h1
  obtain ⟨x2, l2, e2, h3⟩ := kI_sp h2
  obtain ⟨ey, hy⟩ := kE_sp h3
  subst ez
  subst ey
  subst e2
  subst e1
  subst e0
  exact H x0 x1 x2 τ hy
set_option maxHeartbeats 4000000 in
set_option maxRecDepth 100000 in
theorem rl_88_12 {C : px_C} (hn : px_nd (px_tb C)) {h : Nat} (hh : 3 ≤ h) (hC : px_ok C pn_i88 h) {k : Option px_V → px_M → Prop} {x0 : Nat} {x1 : Int32} {σ : px_M} : ∀ s : Int32, oW (f_88_12 (px_tb C) σ x0 x1 s) (fun r => k (some (.inl r)) σ) → (fun s : Int32 => px_W C k 12 [some (.inr (.inr (some x0))), some (.inl x1), some (.inl s)] [] σ) s := by
  intro s h0
  refine lpO_sound (P := (fun s : Int32 => px_W C k 12 [some (.inr (.inr (some x0))), some (.inl x1), some (.inl s)] [] σ)) (fun s hs => ?_) h0
  revert hs
  generalize s = x2
  intro hs
  refine px_runG (h - 1) ck_88 [(14, Sg_14 (f_14 (px_tb C))), (31, Sg_31 (f_31 (px_tb C)))] [(12, kp_88_12 (fun y0 y1 y2 τ => y0 = x0 ∧ y1 = x1 ∧ τ = σ ∧ (fun s : Int32 => px_W C k 12 [some (.inr (.inr (some x0))), some (.inl x1), some (.inl s)] [] σ) y2))] 80 hC (px_sp1 (mf_14 hn (by omega)) (px_sp1 (mf_31 hn (by omega)) px_nosp)) (by omega) (px_cut1 (kq_88_12 (fun y0 y1 y2 τ hq => by obtain ⟨rfl, rfl, rfl, hq⟩ := hq; exact hq)) px_nocut) (fun G Jf hG hJf => ?_)
  simp only [F_88_12, oW_some, oW_none, oW_bind, oW_map, oW_ite, oW_bn, oW_gd, oW_oA, Sum.elim_inl, Sum.elim_inr, oW_and, true_and, and_true, false_and, and_false, true_or, or_true, false_or, or_false, and_self, or_self, not_false_eq_true, not_true_eq_false, false_implies, forall_const, true_implies, eq_self, ↓reduceIte] at hs
  simp only [↓hG, ↓hJf, ↓px_vc, ↓px_ex, ↓px_jp, ↓px_gi, ↓px_gl, ↓px_gr, ↓px_s1, ↓px_s2, ↓px_nl, ↓px_i1, ↓px_l1, ↓px_r1_o, ↓px_q1, ↓px_i2, ↓px_l2, ↓px_il, ↓px_d0, ↓px_d1, ↓px_d2, ↓px_pop, px_sz, ↓px_sp, ↓px_rd, ↓px_rf, ↓pn_xf, ↓px_pt, ↓px_rok, ↓px_rv_o, ↓px_fill, ↓px_sl, ↓px_sw, ↓pn_SW, lc_lt, lc_ge, lc_gt, lc_le, lc_eq, ↓reduceIte, Nat.reduceEqDiff, Nat.reduceLeDiff, Nat.reduceAdd, Nat.reduceSub, reduceCtorEq, List.length_cons, List.length_nil, Option.toList_some, Option.toList_none, List.cons_append, List.nil_append, true_and, and_true, false_and, and_false, true_or, or_true, false_or, or_false, and_self, or_self, not_false_eq_true, not_true_eq_false, false_implies, forall_const, true_implies, eq_self, ↓kI_s, ↓kJ_s, ↓kN_s, ↓kO_s, ↓kZ_s, ↓kE_s, oW_and, ↓bk_88, ↓pn_i88, oW_some, oW_none, oW_bind, oW_map, oW_ite, oW_bn, oW_gd, oW_oA, Sum.elim_inl, Sum.elim_inr, ↓Sg_14, ↓Sg_31, ↓kp_88_12]
  exact hs
set_option maxHeartbeats 4000000 in
set_option maxRecDepth 100000 in
theorem mf_88 {tab : px_T} (hn : px_nd tab) {h : Nat} (hh : 3 ≤ h) : px_Ok tab pn_i88 h (Sg_88 (f_88 tab)) := by
  refine px_mth hn (by decide +kernel) (fun av σ k hS => ?_) (fun C hT hC av σ k hS => ?_)
  · obtain ⟨x0, av0, e0, h0⟩ := px_r1_spec hS
    obtain ⟨x1, av1, e1, h1⟩ := px_i1_spec h0
    obtain ⟨ez, hz⟩ := h1
    subst ez
    subst e1
    subst e0
    exact Nat.le_of_ble_eq_true rfl
  · obtain ⟨x0, av0, e0, h0⟩ := px_r1_spec hS
    obtain ⟨x1, av1, e1, h1⟩ := px_i1_spec h0
    obtain ⟨ez, hz⟩ := h1
    subst ez
    subst e1
    subst e0
    subst hT
    refine px_runG (h - 1) ck_88 [(40, Sg_40 (f_40 (px_tb C)))] [(12, kp_88_12 (fun y0 y1 y2 τ => τ = σ ∧ oW (f_88_12 (px_tb C) τ y0 y1 y2) (fun r => k (some (.inl r)) σ)))] 80 hC (px_sp1 (mf_40 hn (by omega)) px_nosp) (by omega) (px_cut1 (kq_88_12 (fun y0 y1 y2 τ hq => by obtain ⟨rfl, hq⟩ := hq; exact rl_88_12 hn (by omega) hC y2 hq)) px_nocut) (fun G Jf hG hJf => ?_)
    simp only [f_88, oW_some, oW_none, oW_bind, oW_map, oW_ite, oW_bn, oW_gd, oW_oA, Sum.elim_inl, Sum.elim_inr, oW_and, true_and, and_true, false_and, and_false, true_or, or_true, false_or, or_false, and_self, or_self, not_false_eq_true, not_true_eq_false, false_implies, forall_const, true_implies, eq_self, ↓reduceIte] at hz
    simp only [↓hG, ↓hJf, ↓px_vc, ↓px_ex, ↓px_jp, ↓px_gi, ↓px_gl, ↓px_gr, ↓px_s1, ↓px_s2, ↓px_nl, ↓px_i1, ↓px_l1, ↓px_r1_o, ↓px_q1, ↓px_i2, ↓px_l2, ↓px_il, ↓px_d0, ↓px_d1, ↓px_d2, ↓px_pop, px_sz, ↓px_sp, ↓px_rd, ↓px_rf, ↓pn_xf, ↓px_pt, ↓px_rok, ↓px_rv_o, ↓px_fill, ↓px_sl, ↓px_sw, ↓pn_SW, lc_lt, lc_ge, lc_gt, lc_le, lc_eq, ↓reduceIte, Nat.reduceEqDiff, Nat.reduceLeDiff, Nat.reduceAdd, Nat.reduceSub, reduceCtorEq, List.length_cons, List.length_nil, Option.toList_some, Option.toList_none, List.cons_append, List.nil_append, true_and, and_true, false_and, and_false, true_or, or_true, false_or, or_false, and_self, or_self, not_false_eq_true, not_true_eq_false, false_implies, forall_const, true_implies, eq_self, ↓kI_s, ↓kJ_s, ↓kN_s, ↓kO_s, ↓kZ_s, ↓kE_s, oW_and, ↓bk_88, ↓pn_i88, oW_some, oW_none, oW_bind, oW_map, oW_ite, oW_bn, oW_gd, oW_oA, Sum.elim_inl, Sum.elim_inr, ↓Sg_40, ↓kp_88_12]
    exact hz
def Sg_89 (g : px_M → Nat → Option (Int32 × px_M)) : px_S := fun av σ k => px_r1 av (fun x0 av => av = [] ∧ oW (g σ x0) (fun q => k (some (.inl q.1)) q.2))
/-- NoThreeModel.full()I -/
noncomputable def F_89_9 (tab : px_T) (σ : px_M) (x0 : Nat) (x1 : Int32) (x2 : Int32) : Option ((Int32 × Int32) ⊕ (Int32 × px_M)) := gd (px_obj (px_lay tab x0) 0) ((((σ).2.2 x0 1)).bind fun n1 => oA (px_lay tab n1) fun t2 l3 => gd (t2 = 0 ∨ t2 = 11) (gd (vp_in (nI 1) l3) (if ((nI 1) <<< ((px_av t2 σ n1 ((nI 1)).toNatClampNeg) &&& 31)) ≤ x2 then (some (.inr ((x1, σ)))) else (gd (px_obj (px_lay tab x0) 0) ((f_88 tab σ x0 x2).bind fun r4 => if r4 = nI 0 then (some (.inl (((x1 + (nI 0)), (x2 + (nI 1)))))) else (some (.inl (((x1 + (nI 1)), (x2 + (nI 1)))))))))))
noncomputable def f_89_9 (tab : px_T) (σ : px_M) (x0 : Nat) (x1 : Int32) (x2 : Int32) : Option (Int32 × px_M) := lpO (fun s : Int32 × Int32 => F_89_9 tab σ x0 s.1 s.2) (x1, x2)
theorem f_89_9_eq (tab : px_T) (σ : px_M) (x0 : Nat) (x1 : Int32) (x2 : Int32) : f_89_9 tab σ x0 x1 x2 = (F_89_9 tab σ x0 x1 x2).bind (Sum.elim (fun s => f_89_9 tab σ x0 s.1 s.2) some) := lpO_eq _ _
noncomputable def f_89 (tab : px_T) (σ : px_M) (x0 : Nat) : Option (Int32 × px_M) := gd (px_obj (px_lay tab x0) 0) (f_89_9 tab ((px_wi σ x0 0 (nI 0))) x0 ((nI 0)) ((nI 0)))
def kp_89_9 (Q : Nat → Int32 → Int32 → px_M → Prop) : px_P := fun ls st τ => st = [] ∧ kN ls (fun x0 ls => kI ls (fun x1 ls => kI ls (fun x2 ls => kE ls (Q x0 x1 x2 τ))))
theorem kq_89_9 {C : px_C} {k : Option px_V → px_M → Prop} {Q : Nat → Int32 → Int32 → px_M → Prop} (H : ∀ (x0 : Nat) (x1 : Int32) (x2 : Int32) (τ : px_M), Q x0 x1 x2 τ → px_W C k 9 [some (.inr (.inr (some x0))), some (.inl x1), some (.inl x2)] [] τ) : ∀ ls st τ, kp_89_9 Q ls st τ → px_W C k 9 ls st τ := by
  intro ls st τ hz
  obtain ⟨ez, h0⟩ := hz
  obtain ⟨x0, l0, e0, h1⟩ := kN_sp h0
  obtain ⟨x1, l1, e1, h2⟩ := kI_sp h1
  obtain ⟨x2, l2, e2, h3⟩ := kI_sp h2
  obtain ⟨ey, hy⟩ := kE_sp h3
  subst ez
  subst ey
  subst e2
  subst e1
  subst e0
  exact H x0 x1 x2 τ hy
set_option maxHeartbeats 4000000 in
set_option maxRecDepth 100000 in
theorem rl_89_9 {C : px_C} (hn : px_nd (px_tb C)) {h : Nat} (hh : 4 ≤ h) (hC : px_ok C pn_i89 h) {k : Option px_V → px_M → Prop} {x0 : Nat} {σ : px_M} : ∀ s : Int32 × Int32, oW (f_89_9 (px_tb C) σ x0 s.1 s.2) (fun q => k (some (.inl q.1)) q.2) → (fun s : Int32 × Int32 => px_W C k 9 [some (.inr (.inr (some x0))), some (.inl s.1), some (.inl s.2)] [] σ) s := by
  intro s h0
  refine lpO_sound (P := (fun s : Int32 × Int32 => px_W C k 9 [some (.inr (.inr (some x0))), some (.inl s.1), some (.inl s.2)] [] σ)) (fun s hs => ?_) h0
  obtain ⟨x1, x2⟩ := s
  refine px_runG (h - 1) ck_89 [(88, Sg_88 (f_88 (px_tb C)))] [(9, kp_89_9 (fun y0 y1 y2 τ => y0 = x0 ∧ τ = σ ∧ (fun s : Int32 × Int32 => px_W C k 9 [some (.inr (.inr (some x0))), some (.inl s.1), some (.inl s.2)] [] σ) (y1, y2)))] 80 hC (px_sp1 (mf_88 hn (by omega)) px_nosp) (by omega) (px_cut1 (kq_89_9 (fun y0 y1 y2 τ hq => by obtain ⟨rfl, rfl, hq⟩ := hq; exact hq)) px_nocut) (fun G Jf hG hJf => ?_)
  simp only [F_89_9, oW_some, oW_none, oW_bind, oW_map, oW_ite, oW_bn, oW_gd, oW_oA, Sum.elim_inl, Sum.elim_inr, oW_and, true_and, and_true, false_and, and_false, true_or, or_true, false_or, or_false, and_self, or_self, not_false_eq_true, not_true_eq_false, false_implies, forall_const, true_implies, eq_self, ↓reduceIte] at hs
  simp only [↓hG, ↓hJf, ↓px_vc, ↓px_ex, ↓px_jp, ↓px_gi, ↓px_gl, ↓px_gr, ↓px_s1, ↓px_s2, ↓px_nl, ↓px_i1, ↓px_l1, ↓px_r1_o, ↓px_q1, ↓px_i2, ↓px_l2, ↓px_il, ↓px_d0, ↓px_d1, ↓px_d2, ↓px_pop, px_sz, ↓px_sp, ↓px_rd, ↓px_rf, ↓pn_xf, ↓px_pt, ↓px_rok, ↓px_rv_o, ↓px_fill, ↓px_sl, ↓px_sw, ↓pn_SW, lc_lt, lc_ge, lc_gt, lc_le, lc_eq, ↓reduceIte, Nat.reduceEqDiff, Nat.reduceLeDiff, Nat.reduceAdd, Nat.reduceSub, reduceCtorEq, List.length_cons, List.length_nil, Option.toList_some, Option.toList_none, List.cons_append, List.nil_append, true_and, and_true, false_and, and_false, true_or, or_true, false_or, or_false, and_self, or_self, not_false_eq_true, not_true_eq_false, false_implies, forall_const, true_implies, eq_self, ↓kI_s, ↓kJ_s, ↓kN_s, ↓kO_s, ↓kZ_s, ↓kE_s, oW_and, ↓bk_89, ↓pn_i89, oW_some, oW_none, oW_bind, oW_map, oW_ite, oW_bn, oW_gd, oW_oA, Sum.elim_inl, Sum.elim_inr, ↓Sg_88, ↓kp_89_9]
  exact hs
set_option maxHeartbeats 4000000 in
set_option maxRecDepth 100000 in
theorem mf_89 {tab : px_T} (hn : px_nd tab) {h : Nat} (hh : 4 ≤ h) : px_Ok tab pn_i89 h (Sg_89 (f_89 tab)) := by
  refine px_mth hn (by decide +kernel) (fun av σ k hS => ?_) (fun C hT hC av σ k hS => ?_)
  · obtain ⟨x0, av0, e0, h0⟩ := px_r1_spec hS
    obtain ⟨ez, hz⟩ := h0
    subst ez
    subst e0
    exact Nat.le_of_ble_eq_true rfl
  · obtain ⟨x0, av0, e0, h0⟩ := px_r1_spec hS
    obtain ⟨ez, hz⟩ := h0
    subst ez
    subst e0
    subst hT
    refine px_runG (h - 1) ck_89 [] [(9, kp_89_9 (fun y0 y1 y2 τ => oW (f_89_9 (px_tb C) τ y0 y1 y2) (fun q => k (some (.inl q.1)) q.2)))] 80 hC px_nosp (by omega) (px_cut1 (kq_89_9 (fun y0 y1 y2 τ hq => by exact rl_89_9 hn (by omega) hC (y1, y2) hq)) px_nocut) (fun G Jf hG hJf => ?_)
    simp only [f_89, oW_some, oW_none, oW_bind, oW_map, oW_ite, oW_bn, oW_gd, oW_oA, Sum.elim_inl, Sum.elim_inr, oW_and, true_and, and_true, false_and, and_false, true_or, or_true, false_or, or_false, and_self, or_self, not_false_eq_true, not_true_eq_false, false_implies, forall_const, true_implies, eq_self, ↓reduceIte] at hz
    simp only [↓hG, ↓hJf, ↓px_vc, ↓px_ex, ↓px_jp, ↓px_gi, ↓px_gl, ↓px_gr, ↓px_s1, ↓px_s2, ↓px_nl, ↓px_i1, ↓px_l1, ↓px_r1_o, ↓px_q1, ↓px_i2, ↓px_l2, ↓px_il, ↓px_d0, ↓px_d1, ↓px_d2, ↓px_pop, px_sz, ↓px_sp, ↓px_rd, ↓px_rf, ↓pn_xf, ↓px_pt, ↓px_rok, ↓px_rv_o, ↓px_fill, ↓px_sl, ↓px_sw, ↓pn_SW, lc_lt, lc_ge, lc_gt, lc_le, lc_eq, ↓reduceIte, Nat.reduceEqDiff, Nat.reduceLeDiff, Nat.reduceAdd, Nat.reduceSub, reduceCtorEq, List.length_cons, List.length_nil, Option.toList_some, Option.toList_none, List.cons_append, List.nil_append, true_and, and_true, false_and, and_false, true_or, or_true, false_or, or_false, and_self, or_self, not_false_eq_true, not_true_eq_false, false_implies, forall_const, true_implies, eq_self, ↓kI_s, ↓kJ_s, ↓kN_s, ↓kO_s, ↓kZ_s, ↓kE_s, oW_and, ↓bk_89, ↓pn_i89, oW_some, oW_none, oW_bind, oW_map, oW_ite, oW_bn, oW_gd, oW_oA, Sum.elim_inl, Sum.elim_inr, ↓kp_89_9]
    exact hz
def Sg_90 (g : px_M → Nat → Int32 → Option (Int32 × px_M)) : px_S := fun av σ k => px_r1 av (fun x0 av => px_i1 av (fun x1 av => av = [] ∧ oW (g σ x0 x1) (fun q => k (some (.inl q.1)) q.2)))
/-- NoThreeModel.feast(I)I -/
noncomputable def f_90 (tab : px_T) (σ : px_M) (x0 : Nat) (x1 : Int32) : Option (Int32 × px_M) := gd (px_obj (px_lay tab x0) 0) (if x1 = (-1) then (bn (x1 = (-1)) (gd (px_obj (px_lay tab x0) 0) ((f_41 tab (px_wi σ x0 0 (nI 0)) x0 (((nI 1) <<< (x1 &&& 31)))).bind fun r1 => some ((r1, (px_wi σ x0 0 (nI 0)))))) (gd (px_obj (px_lay tab x0) 0) ((f_41 tab (px_wi σ x0 0 (nI 0)) x0 ((nI 0))).bind fun r2 => some ((r2, (px_wi σ x0 0 (nI 0))))))) else (gd (px_obj (px_lay tab x0) 0) ((f_30 tab (px_wi σ x0 0 (nI 0)) x0 ((x1).toInt64)).bind fun r3 => bn (r3 = nI 0) (bn (x1 = (-1)) (gd (px_obj (px_lay tab x0) 0) ((f_41 tab (px_wi σ x0 0 (nI 0)) x0 (((nI 1) <<< (x1 &&& 31)))).bind fun r4 => some ((r4, (px_wi σ x0 0 (nI 0)))))) (gd (px_obj (px_lay tab x0) 0) ((f_41 tab (px_wi σ x0 0 (nI 0)) x0 ((nI 0))).bind fun r5 => some ((r5, (px_wi σ x0 0 (nI 0))))))) (some (((-2), (px_wi σ x0 0 (nI 0))))))))
set_option maxHeartbeats 4000000 in
set_option maxRecDepth 100000 in
theorem mf_90 {tab : px_T} (hn : px_nd tab) {h : Nat} (hh : 4 ≤ h) : px_Ok tab pn_i90 h (Sg_90 (f_90 tab)) := by
  refine px_mth hn (by decide +kernel) (fun av σ k hS => ?_) (fun C hT hC av σ k hS => ?_)
  · obtain ⟨x0, av0, e0, h0⟩ := px_r1_spec hS
    obtain ⟨x1, av1, e1, h1⟩ := px_i1_spec h0
    obtain ⟨ez, hz⟩ := h1
    subst ez
    subst e1
    subst e0
    exact Nat.le_of_ble_eq_true rfl
  · obtain ⟨x0, av0, e0, h0⟩ := px_r1_spec hS
    obtain ⟨x1, av1, e1, h1⟩ := px_i1_spec h0
    obtain ⟨ez, hz⟩ := h1
    subst ez
    subst e1
    subst e0
    subst hT
    refine px_runG (h - 1) ck_90 [(30, Sg_30 (f_30 (px_tb C))), (41, Sg_41 (f_41 (px_tb C)))] [] 80 hC (px_sp1 (mf_30 hn (by omega)) (px_sp1 (mf_41 hn (by omega)) px_nosp)) (by omega) px_nocut (fun G Jf hG hJf => ?_)
    simp only [f_90, oW_some, oW_none, oW_bind, oW_map, oW_ite, oW_bn, oW_gd, oW_oA, Sum.elim_inl, Sum.elim_inr, oW_and, true_and, and_true, false_and, and_false, true_or, or_true, false_or, or_false, and_self, or_self, not_false_eq_true, not_true_eq_false, false_implies, forall_const, true_implies, eq_self, ↓reduceIte] at hz
    simp only [↓hG, ↓hJf, ↓px_vc, ↓px_ex, ↓px_jp, ↓px_gi, ↓px_gl, ↓px_gr, ↓px_s1, ↓px_s2, ↓px_nl, ↓px_i1, ↓px_l1, ↓px_r1_o, ↓px_q1, ↓px_i2, ↓px_l2, ↓px_il, ↓px_d0, ↓px_d1, ↓px_d2, ↓px_pop, px_sz, ↓px_sp, ↓px_rd, ↓px_rf, ↓pn_xf, ↓px_pt, ↓px_rok, ↓px_rv_o, ↓px_fill, ↓px_sl, ↓px_sw, ↓pn_SW, lc_lt, lc_ge, lc_gt, lc_le, lc_eq, ↓reduceIte, Nat.reduceEqDiff, Nat.reduceLeDiff, Nat.reduceAdd, Nat.reduceSub, reduceCtorEq, List.length_cons, List.length_nil, Option.toList_some, Option.toList_none, List.cons_append, List.nil_append, true_and, and_true, false_and, and_false, true_or, or_true, false_or, or_false, and_self, or_self, not_false_eq_true, not_true_eq_false, false_implies, forall_const, true_implies, eq_self, ↓kI_s, ↓kJ_s, ↓kN_s, ↓kO_s, ↓kZ_s, ↓kE_s, oW_and, ↓bk_90, ↓pn_i90, oW_some, oW_none, oW_bind, oW_map, oW_ite, oW_bn, oW_gd, oW_oA, Sum.elim_inl, Sum.elim_inr, ↓Sg_30, ↓Sg_41]
    exact hz
def Sg_91 (g : px_M → Nat → Option (Int32 × px_M)) : px_S := fun av σ k => px_r1 av (fun x0 av => av = [] ∧ oW (g σ x0) (fun q => k (some (.inl q.1)) q.2))
/-- NoThreeModel.colours()I -/
noncomputable def f_91 (tab : px_T) (σ : px_M) (x0 : Nat) : Option (Int32 × px_M) := gd (px_obj (px_lay tab x0) 0) (gd (px_obj (px_lay tab x0) 0) ((f_43 tab (px_wi σ x0 0 (nI 0)) x0 ((-1))).bind fun q1 => some ((q1.1, q1.2))))
set_option maxHeartbeats 4000000 in
set_option maxRecDepth 100000 in
theorem mf_91 {tab : px_T} (hn : px_nd tab) {h : Nat} (hh : 28 ≤ h) : px_Ok tab pn_i91 h (Sg_91 (f_91 tab)) := by
  refine px_mth hn (by decide +kernel) (fun av σ k hS => ?_) (fun C hT hC av σ k hS => ?_)
  · obtain ⟨x0, av0, e0, h0⟩ := px_r1_spec hS
    obtain ⟨ez, hz⟩ := h0
    subst ez
    subst e0
    exact Nat.le_of_ble_eq_true rfl
  · obtain ⟨x0, av0, e0, h0⟩ := px_r1_spec hS
    obtain ⟨ez, hz⟩ := h0
    subst ez
    subst e0
    subst hT
    refine px_runG (h - 1) ck_91 [(43, Sg_43 (f_43 (px_tb C)))] [] 80 hC (px_sp1 (mf_43 hn (by omega)) px_nosp) (by omega) px_nocut (fun G Jf hG hJf => ?_)
    simp only [f_91, oW_some, oW_none, oW_bind, oW_map, oW_ite, oW_bn, oW_gd, oW_oA, Sum.elim_inl, Sum.elim_inr, oW_and, true_and, and_true, false_and, and_false, true_or, or_true, false_or, or_false, and_self, or_self, not_false_eq_true, not_true_eq_false, false_implies, forall_const, true_implies, eq_self, ↓reduceIte] at hz
    simp only [↓hG, ↓hJf, ↓px_vc, ↓px_ex, ↓px_jp, ↓px_gi, ↓px_gl, ↓px_gr, ↓px_s1, ↓px_s2, ↓px_nl, ↓px_i1, ↓px_l1, ↓px_r1_o, ↓px_q1, ↓px_i2, ↓px_l2, ↓px_il, ↓px_d0, ↓px_d1, ↓px_d2, ↓px_pop, px_sz, ↓px_sp, ↓px_rd, ↓px_rf, ↓pn_xf, ↓px_pt, ↓px_rok, ↓px_rv_o, ↓px_fill, ↓px_sl, ↓px_sw, ↓pn_SW, lc_lt, lc_ge, lc_gt, lc_le, lc_eq, ↓reduceIte, Nat.reduceEqDiff, Nat.reduceLeDiff, Nat.reduceAdd, Nat.reduceSub, reduceCtorEq, List.length_cons, List.length_nil, Option.toList_some, Option.toList_none, List.cons_append, List.nil_append, true_and, and_true, false_and, and_false, true_or, or_true, false_or, or_false, and_self, or_self, not_false_eq_true, not_true_eq_false, false_implies, forall_const, true_implies, eq_self, ↓kI_s, ↓kJ_s, ↓kN_s, ↓kO_s, ↓kZ_s, ↓kE_s, oW_and, ↓bk_91, ↓pn_i91, oW_some, oW_none, oW_bind, oW_map, oW_ite, oW_bn, oW_gd, oW_oA, Sum.elim_inl, Sum.elim_inr, ↓Sg_43]
    exact hz
def Sg_92 (g : px_M → Nat → Int32 → Option (Int32 × px_M)) : px_S := fun av σ k => px_r1 av (fun x0 av => px_i1 av (fun x1 av => av = [] ∧ oW (g σ x0 x1) (fun q => k (some (.inl q.1)) q.2)))
/-- NoThreeModel.colour(I)I -/
noncomputable def f_92 (tab : px_T) (σ : px_M) (x0 : Nat) (x1 : Int32) : Option (Int32 × px_M) := gd (px_obj (px_lay tab x0) 0) (gd (px_obj (px_lay tab x0) 0) ((f_30 tab (px_wi σ x0 0 (nI 0)) x0 ((x1).toInt64)).bind fun r1 => bn (r1 = nI 0) (gd (px_obj (px_lay tab x0) 0) ((f_43 tab (px_wi σ x0 0 (nI 0)) x0 ((-1))).bind fun q2 => gd (px_obj (px_lay tab x0) 0) ((((q2.2).2.2 x0 16)).bind fun n3 => oA (px_lay tab n3) fun t4 l5 => gd (t4 = 0 ∨ t4 = 11) (gd (vp_in x1 l5) (some (((px_av t4 q2.2 n3 (x1).toNatClampNeg), q2.2))))))) (some (((-2), (px_wi σ x0 0 (nI 0)))))))
set_option maxHeartbeats 4000000 in
set_option maxRecDepth 100000 in
theorem mf_92 {tab : px_T} (hn : px_nd tab) {h : Nat} (hh : 28 ≤ h) : px_Ok tab pn_i92 h (Sg_92 (f_92 tab)) := by
  refine px_mth hn (by decide +kernel) (fun av σ k hS => ?_) (fun C hT hC av σ k hS => ?_)
  · obtain ⟨x0, av0, e0, h0⟩ := px_r1_spec hS
    obtain ⟨x1, av1, e1, h1⟩ := px_i1_spec h0
    obtain ⟨ez, hz⟩ := h1
    subst ez
    subst e1
    subst e0
    exact Nat.le_of_ble_eq_true rfl
  · obtain ⟨x0, av0, e0, h0⟩ := px_r1_spec hS
    obtain ⟨x1, av1, e1, h1⟩ := px_i1_spec h0
    obtain ⟨ez, hz⟩ := h1
    subst ez
    subst e1
    subst e0
    subst hT
    refine px_runG (h - 1) ck_92 [(30, Sg_30 (f_30 (px_tb C))), (43, Sg_43 (f_43 (px_tb C)))] [] 80 hC (px_sp1 (mf_30 hn (by omega)) (px_sp1 (mf_43 hn (by omega)) px_nosp)) (by omega) px_nocut (fun G Jf hG hJf => ?_)
    simp only [f_92, oW_some, oW_none, oW_bind, oW_map, oW_ite, oW_bn, oW_gd, oW_oA, Sum.elim_inl, Sum.elim_inr, oW_and, true_and, and_true, false_and, and_false, true_or, or_true, false_or, or_false, and_self, or_self, not_false_eq_true, not_true_eq_false, false_implies, forall_const, true_implies, eq_self, ↓reduceIte] at hz
    simp only [↓hG, ↓hJf, ↓px_vc, ↓px_ex, ↓px_jp, ↓px_gi, ↓px_gl, ↓px_gr, ↓px_s1, ↓px_s2, ↓px_nl, ↓px_i1, ↓px_l1, ↓px_r1_o, ↓px_q1, ↓px_i2, ↓px_l2, ↓px_il, ↓px_d0, ↓px_d1, ↓px_d2, ↓px_pop, px_sz, ↓px_sp, ↓px_rd, ↓px_rf, ↓pn_xf, ↓px_pt, ↓px_rok, ↓px_rv_o, ↓px_fill, ↓px_sl, ↓px_sw, ↓pn_SW, lc_lt, lc_ge, lc_gt, lc_le, lc_eq, ↓reduceIte, Nat.reduceEqDiff, Nat.reduceLeDiff, Nat.reduceAdd, Nat.reduceSub, reduceCtorEq, List.length_cons, List.length_nil, Option.toList_some, Option.toList_none, List.cons_append, List.nil_append, true_and, and_true, false_and, and_false, true_or, or_true, false_or, or_false, and_self, or_self, not_false_eq_true, not_true_eq_false, false_implies, forall_const, true_implies, eq_self, ↓kI_s, ↓kJ_s, ↓kN_s, ↓kO_s, ↓kZ_s, ↓kE_s, oW_and, ↓bk_92, ↓pn_i92, oW_some, oW_none, oW_bind, oW_map, oW_ite, oW_bn, oW_gd, oW_oA, Sum.elim_inl, Sum.elim_inr, ↓Sg_30, ↓Sg_43]
    exact hz
def Sg_93 (g : px_M → Nat → Int32 → Option (Int64 × px_M)) : px_S := fun av σ k => px_r1 av (fun x0 av => px_i1 av (fun x1 av => av = [] ∧ oW (g σ x0 x1) (fun q => k (some (.inr (.inl q.1))) q.2)))
/-- NoThreeModel.ways(I)J -/
noncomputable def F_93_145 (tab : px_T) (x0 : Nat) (x1 : Int32) (x2 : Int32) (x3 : Int32) (σ : px_M) : Option ((Int32 × px_M) ⊕ ((Int32 × px_M) ⊕ (Int64 × px_M))) := gd (px_obj (px_lay tab x0) 0) ((((σ).2.2 x0 1)).bind fun n1 => oA (px_lay tab n1) fun t2 l3 => gd (t2 = 0 ∨ t2 = 11) (gd (vp_in (nI 1) l3) (if ((nI 1) <<< ((px_av t2 σ n1 ((nI 1)).toNatClampNeg) &&& 31)) ≤ x3 then (some (.inr (.inl (((x2 + (nI 1)), σ))))) else (gd (px_obj (px_lay tab x0) 0) (gd (px_obj (px_lay tab x0) 0) ((((σ).2.2 x0 24)).bind fun n4 => oA (px_lay tab n4) fun t5 l6 => gd (t5 = 3) (gd (vp_in x3 l6) ((((σ).2.2 x0 23)).bind fun n7 => oA (px_lay tab n7) fun t8 l9 => gd (t8 = 3) (gd (vp_in x3 l9) (some (.inl (((x3 + (nI 1)), (px_wl σ n7 (x3).toNatClampNeg ((σ).2.1 n4 (x3).toNatClampNeg)))))))))))))))
noncomputable def f_93_145 (tab : px_T) (x0 : Nat) (x1 : Int32) (x2 : Int32) (x3 : Int32) (σ : px_M) : Option ((Int32 × px_M) ⊕ (Int64 × px_M)) := lpO (fun s : Int32 × px_M => F_93_145 tab x0 x1 x2 s.1 s.2) (x3, σ)
theorem f_93_145_eq (tab : px_T) (x0 : Nat) (x1 : Int32) (x2 : Int32) (x3 : Int32) (σ : px_M) : f_93_145 tab x0 x1 x2 x3 σ = (F_93_145 tab x0 x1 x2 x3 σ).bind (Sum.elim (fun s => f_93_145 tab x0 x1 x2 s.1 s.2) some) := lpO_eq _ _
noncomputable def F_93_92 (tab : px_T) (x0 : Nat) (x1 : Int32) (x2 : Int32) (x3 : Int32) (x4 : Int32) (σ : px_M) : Option ((Int32 × px_M) ⊕ ((Int32 × px_M) ⊕ ((Int32 × px_M) ⊕ (Int64 × px_M)))) := if x4 ≤ nI 0 then (some (.inr (.inl (((x3 + (nI 1)), σ))))) else (gd (px_obj (px_lay tab x0) 0) ((f_40 tab σ x0 x4).bind fun r1 => if r1 = nI 0 then (some (.inl ((((x4 - (nI 1)) &&& x3), σ)))) else (gd (px_obj (px_lay tab x0) 0) ((((σ).2.2 x0 24)).bind fun n2 => oA (px_lay tab n2) fun t3 l4 => gd (t3 = 3) (gd (vp_in x3 l4) (gd (px_obj (px_lay tab x0) 0) ((((σ).2.2 x0 23)).bind fun n5 => oA (px_lay tab n5) fun t6 l7 => gd (t6 = 3) (gd (vp_in (x3 &&& (x4 ^^^ (-1))) l7) ((((σ).2.2 x0 24)).bind fun n8 => oA (px_lay tab n8) fun t9 l10 => gd (t9 = 3) (gd (vp_in x3 l10) (some (.inl ((((x4 - (nI 1)) &&& x3), (px_wl σ n8 (x3).toNatClampNeg (((σ).2.1 n2 (x3).toNatClampNeg) + ((σ).2.1 n5 ((x3 &&& (x4 ^^^ (-1)))).toNatClampNeg)))))))))))))))))
noncomputable def f_93_92 (tab : px_T) (x0 : Nat) (x1 : Int32) (x2 : Int32) (x3 : Int32) (x4 : Int32) (σ : px_M) : Option ((Int32 × px_M) ⊕ ((Int32 × px_M) ⊕ (Int64 × px_M))) := lpO (fun s : Int32 × px_M => F_93_92 tab x0 x1 x2 x3 s.1 s.2) (x4, σ)
theorem f_93_92_eq (tab : px_T) (x0 : Nat) (x1 : Int32) (x2 : Int32) (x3 : Int32) (x4 : Int32) (σ : px_M) : f_93_92 tab x0 x1 x2 x3 x4 σ = (F_93_92 tab x0 x1 x2 x3 x4 σ).bind (Sum.elim (fun s => f_93_92 tab x0 x1 x2 x3 s.1 s.2) some) := lpO_eq _ _
noncomputable def F_93_65 (tab : px_T) (x0 : Nat) (x1 : Int32) (x2 : Int32) (x3 : Int32) (σ : px_M) : Option ((Int32 × px_M) ⊕ ((Int32 × px_M) ⊕ (Int64 × px_M))) := gd (px_obj (px_lay tab x0) 0) ((((σ).2.2 x0 1)).bind fun n1 => oA (px_lay tab n1) fun t2 l3 => gd (t2 = 0 ∨ t2 = 11) (gd (vp_in (nI 1) l3) (if ((nI 1) <<< ((px_av t2 σ n1 ((nI 1)).toNatClampNeg) &&& 31)) ≤ x3 then (Option.map Sum.inr (f_93_145 tab x0 x1 x2 ((nI 0)) σ)) else (gd (px_obj (px_lay tab x0) 0) (gd (px_obj (px_lay tab x0) 0) ((((σ).2.2 x0 23)).bind fun n4 => oA (px_lay tab n4) fun t5 l6 => gd (t5 = 3) (gd (vp_in x3 l6) ((((σ).2.2 x0 24)).bind fun n7 => oA (px_lay tab n7) fun t8 l9 => gd (t8 = 3) (gd (vp_in x3 l9) (f_93_92 tab x0 x1 x2 x3 x3 ((px_wl σ n7 (x3).toNatClampNeg ((σ).2.1 n4 (x3).toNatClampNeg)))))))))))))
noncomputable def f_93_65 (tab : px_T) (x0 : Nat) (x1 : Int32) (x2 : Int32) (x3 : Int32) (σ : px_M) : Option ((Int32 × px_M) ⊕ (Int64 × px_M)) := lpO (fun s : Int32 × px_M => F_93_65 tab x0 x1 x2 s.1 s.2) (x3, σ)
theorem f_93_65_eq (tab : px_T) (x0 : Nat) (x1 : Int32) (x2 : Int32) (x3 : Int32) (σ : px_M) : f_93_65 tab x0 x1 x2 x3 σ = (F_93_65 tab x0 x1 x2 x3 σ).bind (Sum.elim (fun s => f_93_65 tab x0 x1 x2 s.1 s.2) some) := lpO_eq _ _
noncomputable def F_93_58 (tab : px_T) (x0 : Nat) (x1 : Int32) (x2 : Int32) (σ : px_M) : Option ((Int32 × px_M) ⊕ (Int64 × px_M)) := if x1 ≤ x2 then (gd (px_obj (px_lay tab x0) 0) (gd (px_obj (px_lay tab x0) 0) ((((σ).2.2 x0 1)).bind fun n1 => oA (px_lay tab n1) fun t2 l3 => gd (t2 = 0 ∨ t2 = 11) (gd (vp_in (nI 1) l3) ((((σ).2.2 x0 23)).bind fun n4 => oA (px_lay tab n4) fun t5 l6 => gd (t5 = 3) (gd (vp_in (((nI 1) <<< ((px_av t2 σ n1 ((nI 1)).toNatClampNeg) &&& 31)) - (nI 1)) l6) (some (.inr ((((σ).2.1 n4 ((((nI 1) <<< ((px_av t2 σ n1 ((nI 1)).toNatClampNeg) &&& 31)) - (nI 1))).toNatClampNeg), σ)))))))))) else (f_93_65 tab x0 x1 x2 ((nI 0)) σ)
noncomputable def f_93_58 (tab : px_T) (x0 : Nat) (x1 : Int32) (x2 : Int32) (σ : px_M) : Option (Int64 × px_M) := lpO (fun s : Int32 × px_M => F_93_58 tab x0 x1 s.1 s.2) (x2, σ)
theorem f_93_58_eq (tab : px_T) (x0 : Nat) (x1 : Int32) (x2 : Int32) (σ : px_M) : f_93_58 tab x0 x1 x2 σ = (F_93_58 tab x0 x1 x2 σ).bind (Sum.elim (fun s => f_93_58 tab x0 x1 s.1 s.2) some) := lpO_eq _ _
noncomputable def F_93_23 (tab : px_T) (x0 : Nat) (x1 : Int32) (x2 : Int32) (σ : px_M) : Option ((Int32 × px_M) ⊕ (Int64 × px_M)) := gd (px_obj (px_lay tab x0) 0) ((((σ).2.2 x0 1)).bind fun n1 => oA (px_lay tab n1) fun t2 l3 => gd (t2 = 0 ∨ t2 = 11) (gd (vp_in (nI 1) l3) (if ((nI 1) <<< ((px_av t2 σ n1 ((nI 1)).toNatClampNeg) &&& 31)) ≤ x2 then (Option.map Sum.inr (f_93_58 tab x0 x1 ((nI 0)) σ)) else (gd (px_obj (px_lay tab x0) 0) (bn (x2 = nI 0) ((((σ).2.2 x0 23)).bind fun n4 => oA (px_lay tab n4) fun t5 l6 => gd (t5 = 3) (gd (vp_in x2 l6) (some (.inl (((x2 + (nI 1)), (px_wl σ n4 (x2).toNatClampNeg (lN 0)))))))) ((((σ).2.2 x0 23)).bind fun n7 => oA (px_lay tab n7) fun t8 l9 => gd (t8 = 3) (gd (vp_in x2 l9) (some (.inl (((x2 + (nI 1)), (px_wl σ n7 (x2).toNatClampNeg (lN 1)))))))))))))
noncomputable def f_93_23 (tab : px_T) (x0 : Nat) (x1 : Int32) (x2 : Int32) (σ : px_M) : Option (Int64 × px_M) := lpO (fun s : Int32 × px_M => F_93_23 tab x0 x1 s.1 s.2) (x2, σ)
theorem f_93_23_eq (tab : px_T) (x0 : Nat) (x1 : Int32) (x2 : Int32) (σ : px_M) : f_93_23 tab x0 x1 x2 σ = (F_93_23 tab x0 x1 x2 σ).bind (Sum.elim (fun s => f_93_23 tab x0 x1 s.1 s.2) some) := lpO_eq _ _
noncomputable def f_93 (tab : px_T) (σ : px_M) (x0 : Nat) (x1 : Int32) : Option (Int64 × px_M) := gd (px_obj (px_lay tab x0) 0) ((f_2 tab (px_wi σ x0 0 (nI 0)) ((x1).toInt64) ((lN 0)) ((lN 6))).bind fun r1 => bn (r1 = nI 0) (f_93_23 tab x0 x1 ((nI 0)) ((px_wi σ x0 0 (nI 0)))) (some (((-3), (px_wi σ x0 0 (nI 0))))))
def kp_93_145 (Q : Nat → Int32 → Int32 → Int32 → px_M → Prop) : px_P := fun ls st τ => st = [] ∧ kN ls (fun x0 ls => kI ls (fun x1 ls => kI ls (fun x2 ls => kI ls (fun x3 ls => kZ ls (fun ls => kE ls (Q x0 x1 x2 x3 τ))))))
theorem kq_93_145 {C : px_C} {k : Option px_V → px_M → Prop} {Q : Nat → Int32 → Int32 → Int32 → px_M → Prop} (H : ∀ (x0 : Nat) (x1 : Int32) (x2 : Int32) (x3 : Int32) (τ : px_M), Q x0 x1 x2 x3 τ → ∀ (z4 : Option px_V), px_W C k 145 [some (.inr (.inr (some x0))), some (.inl x1), some (.inl x2), some (.inl x3), z4] [] τ) : ∀ ls st τ, kp_93_145 Q ls st τ → px_W C k 145 ls st τ := by
  intro ls st τ hz
  obtain ⟨ez, h0⟩ := hz
  obtain ⟨x0, l0, e0, h1⟩ := kN_sp h0
  obtain ⟨x1, l1, e1, h2⟩ := kI_sp h1
  obtain ⟨x2, l2, e2, h3⟩ := kI_sp h2
  obtain ⟨x3, l3, e3, h4⟩ := kI_sp h3
  obtain ⟨z4, l4, e4, h5⟩ := kZ_sp h4
  obtain ⟨ey, hy⟩ := kE_sp h5
  subst ez
  subst ey
  subst e4
  subst e3
  subst e2
  subst e1
  subst e0
  exact H x0 x1 x2 x3 τ hy z4
def kp_93_92 (Q : Nat → Int32 → Int32 → Int32 → Int32 → px_M → Prop) : px_P := fun ls st τ => st = [] ∧ kN ls (fun x0 ls => kI ls (fun x1 ls => kI ls (fun x2 ls => kI ls (fun x3 ls => kI ls (fun x4 ls => kE ls (Q x0 x1 x2 x3 x4 τ))))))
theorem kq_93_92 {C : px_C} {k : Option px_V → px_M → Prop} {Q : Nat → Int32 → Int32 → Int32 → Int32 → px_M → Prop} (H : ∀ (x0 : Nat) (x1 : Int32) (x2 : Int32) (x3 : Int32) (x4 : Int32) (τ : px_M), Q x0 x1 x2 x3 x4 τ → px_W C k 92 [some (.inr (.inr (some x0))), some (.inl x1), some (.inl x2), some (.inl x3), some (.inl x4)] [] τ) : ∀ ls st τ, kp_93_92 Q ls st τ → px_W C k 92 ls st τ := by
  intro ls st τ hz
  obtain ⟨ez, h0⟩ := hz
  obtain ⟨x0, l0, e0, h1⟩ := kN_sp h0
  obtain ⟨x1, l1, e1, h2⟩ := kI_sp h1
  obtain ⟨x2, l2, e2, h3⟩ := kI_sp h2
  obtain ⟨x3, l3, e3, h4⟩ := kI_sp h3
  obtain ⟨x4, l4, e4, h5⟩ := kI_sp h4
  obtain ⟨ey, hy⟩ := kE_sp h5
  subst ez
  subst ey
  subst e4
  subst e3
  subst e2
  subst e1
  subst e0
  exact H x0 x1 x2 x3 x4 τ hy
def kp_93_65 (Q : Nat → Int32 → Int32 → Int32 → px_M → Prop) : px_P := fun ls st τ => st = [] ∧ kN ls (fun x0 ls => kI ls (fun x1 ls => kI ls (fun x2 ls => kI ls (fun x3 ls => kZ ls (fun ls => kE ls (Q x0 x1 x2 x3 τ))))))
theorem kq_93_65 {C : px_C} {k : Option px_V → px_M → Prop} {Q : Nat → Int32 → Int32 → Int32 → px_M → Prop} (H : ∀ (x0 : Nat) (x1 : Int32) (x2 : Int32) (x3 : Int32) (τ : px_M), Q x0 x1 x2 x3 τ → ∀ (z4 : Option px_V), px_W C k 65 [some (.inr (.inr (some x0))), some (.inl x1), some (.inl x2), some (.inl x3), z4] [] τ) : ∀ ls st τ, kp_93_65 Q ls st τ → px_W C k 65 ls st τ := by
  intro ls st τ hz
  obtain ⟨ez, h0⟩ := hz
  obtain ⟨x0, l0, e0, h1⟩ := kN_sp h0
  obtain ⟨x1, l1, e1, h2⟩ := kI_sp h1
  obtain ⟨x2, l2, e2, h3⟩ := kI_sp h2
  obtain ⟨x3, l3, e3, h4⟩ := kI_sp h3
  obtain ⟨z4, l4, e4, h5⟩ := kZ_sp h4
  obtain ⟨ey, hy⟩ := kE_sp h5
  subst ez
  subst ey
  subst e4
  subst e3
  subst e2
  subst e1
  subst e0
  exact H x0 x1 x2 x3 τ hy z4
def kp_93_58 (Q : Nat → Int32 → Int32 → px_M → Prop) : px_P := fun ls st τ => st = [] ∧ kN ls (fun x0 ls => kI ls (fun x1 ls => kI ls (fun x2 ls => kZ ls (fun ls => kZ ls (fun ls => kE ls (Q x0 x1 x2 τ))))))
theorem kq_93_58 {C : px_C} {k : Option px_V → px_M → Prop} {Q : Nat → Int32 → Int32 → px_M → Prop} (H : ∀ (x0 : Nat) (x1 : Int32) (x2 : Int32) (τ : px_M), Q x0 x1 x2 τ → ∀ (z3 : Option px_V) (z4 : Option px_V), px_W C k 58 [some (.inr (.inr (some x0))), some (.inl x1), some (.inl x2), z3, z4] [] τ) : ∀ ls st τ, kp_93_58 Q ls st τ → px_W C k 58 ls st τ := by
  intro ls st τ hz
  obtain ⟨ez, h0⟩ := hz
  obtain ⟨x0, l0, e0, h1⟩ := kN_sp h0
  obtain ⟨x1, l1, e1, h2⟩ := kI_sp h1
  obtain ⟨x2, l2, e2, h3⟩ := kI_sp h2
  obtain ⟨z3, l3, e3, h4⟩ := kZ_sp h3
  obtain ⟨z4, l4, e4, h5⟩ := kZ_sp h4
  obtain ⟨ey, hy⟩ := kE_sp h5
  subst ez
  subst ey
  subst e4
  subst e3
  subst e2
  subst e1
  subst e0
  exact H x0 x1 x2 τ hy z3 z4
def kp_93_23 (Q : Nat → Int32 → Int32 → px_M → Prop) : px_P := fun ls st τ => st = [] ∧ kN ls (fun x0 ls => kI ls (fun x1 ls => kI ls (fun x2 ls => kZ ls (fun ls => kZ ls (fun ls => kE ls (Q x0 x1 x2 τ))))))
theorem kq_93_23 {C : px_C} {k : Option px_V → px_M → Prop} {Q : Nat → Int32 → Int32 → px_M → Prop} (H : ∀ (x0 : Nat) (x1 : Int32) (x2 : Int32) (τ : px_M), Q x0 x1 x2 τ → ∀ (z3 : Option px_V) (z4 : Option px_V), px_W C k 23 [some (.inr (.inr (some x0))), some (.inl x1), some (.inl x2), z3, z4] [] τ) : ∀ ls st τ, kp_93_23 Q ls st τ → px_W C k 23 ls st τ := by
  intro ls st τ hz
  obtain ⟨ez, h0⟩ := hz
  obtain ⟨x0, l0, e0, h1⟩ := kN_sp h0
  obtain ⟨x1, l1, e1, h2⟩ := kI_sp h1
  obtain ⟨x2, l2, e2, h3⟩ := kI_sp h2
  obtain ⟨z3, l3, e3, h4⟩ := kZ_sp h3
  obtain ⟨z4, l4, e4, h5⟩ := kZ_sp h4
  obtain ⟨ey, hy⟩ := kE_sp h5
  subst ez
  subst ey
  subst e4
  subst e3
  subst e2
  subst e1
  subst e0
  exact H x0 x1 x2 τ hy z3 z4
set_option maxHeartbeats 4000000 in
set_option maxRecDepth 100000 in
theorem rl_93_145 {C : px_C} (hn : px_nd (px_tb C)) {h : Nat} (hh : 3 ≤ h) (hC : px_ok C pn_i93 h) {k : Option px_V → px_M → Prop} {x0 : Nat} {x1 : Int32} {x2 : Int32} : ∀ s : Int32 × px_M, oW (f_93_145 (px_tb C) x0 x1 x2 s.1 s.2) (Sum.elim (fun s : Int32 × px_M => ∀ (z3 : Option px_V) (z4 : Option px_V), px_W C k 58 [some (.inr (.inr (some x0))), some (.inl x1), some (.inl s.1), z3, z4] [] s.2) (fun q => k (some (.inr (.inl q.1))) q.2)) → (fun s : Int32 × px_M => ∀ (z4 : Option px_V), px_W C k 145 [some (.inr (.inr (some x0))), some (.inl x1), some (.inl x2), some (.inl s.1), z4] [] s.2) s := by
  intro s h0
  refine lpO_sound (P := (fun s : Int32 × px_M => ∀ (z4 : Option px_V), px_W C k 145 [some (.inr (.inr (some x0))), some (.inl x1), some (.inl x2), some (.inl s.1), z4] [] s.2)) (fun s hs => ?_) h0
  obtain ⟨x3, σ⟩ := s
  intro z4
  refine px_runG (h - 1) ck_93 [] [(58, kp_93_58 (fun y0 y1 y2 τ => y0 = x0 ∧ y1 = x1 ∧ (fun s : Int32 × px_M => ∀ (z3 : Option px_V) (z4 : Option px_V), px_W C k 58 [some (.inr (.inr (some x0))), some (.inl x1), some (.inl s.1), z3, z4] [] s.2) (y2, τ))), (145, kp_93_145 (fun y0 y1 y2 y3 τ => y0 = x0 ∧ y1 = x1 ∧ y2 = x2 ∧ (fun s : Int32 × px_M => ∀ (z4 : Option px_V), px_W C k 145 [some (.inr (.inr (some x0))), some (.inl x1), some (.inl x2), some (.inl s.1), z4] [] s.2) (y3, τ)))] 80 hC px_nosp (by omega) (px_cut1 (kq_93_58 (fun y0 y1 y2 τ hq => by obtain ⟨rfl, rfl, hq⟩ := hq; exact hq)) (px_cut1 (kq_93_145 (fun y0 y1 y2 y3 τ hq => by obtain ⟨rfl, rfl, rfl, hq⟩ := hq; exact hq)) px_nocut)) (fun G Jf hG hJf => ?_)
  simp only [F_93_145, oW_some, oW_none, oW_bind, oW_map, oW_ite, oW_bn, oW_gd, oW_oA, Sum.elim_inl, Sum.elim_inr, oW_and, true_and, and_true, false_and, and_false, true_or, or_true, false_or, or_false, and_self, or_self, not_false_eq_true, not_true_eq_false, false_implies, forall_const, true_implies, eq_self, ↓reduceIte] at hs
  simp only [↓hG, ↓hJf, ↓px_vc, ↓px_ex, ↓px_jp, ↓px_gi, ↓px_gl, ↓px_gr, ↓px_s1, ↓px_s2, ↓px_nl, ↓px_i1, ↓px_l1, ↓px_r1_o, ↓px_q1, ↓px_i2, ↓px_l2, ↓px_il, ↓px_d0, ↓px_d1, ↓px_d2, ↓px_pop, px_sz, ↓px_sp, ↓px_rd, ↓px_rf, ↓pn_xf, ↓px_pt, ↓px_rok, ↓px_rv_o, ↓px_fill, ↓px_sl, ↓px_sw, ↓pn_SW, lc_lt, lc_ge, lc_gt, lc_le, lc_eq, ↓reduceIte, Nat.reduceEqDiff, Nat.reduceLeDiff, Nat.reduceAdd, Nat.reduceSub, reduceCtorEq, List.length_cons, List.length_nil, Option.toList_some, Option.toList_none, List.cons_append, List.nil_append, true_and, and_true, false_and, and_false, true_or, or_true, false_or, or_false, and_self, or_self, not_false_eq_true, not_true_eq_false, false_implies, forall_const, true_implies, eq_self, ↓kI_s, ↓kJ_s, ↓kN_s, ↓kO_s, ↓kZ_s, ↓kE_s, oW_and, ↓bk_93, ↓pn_i93, oW_some, oW_none, oW_bind, oW_map, oW_ite, oW_bn, oW_gd, oW_oA, Sum.elim_inl, Sum.elim_inr, ↓kp_93_58, ↓kp_93_145]
  exact hs
set_option maxHeartbeats 4000000 in
set_option maxRecDepth 100000 in
theorem rl_93_92 {C : px_C} (hn : px_nd (px_tb C)) {h : Nat} (hh : 3 ≤ h) (hC : px_ok C pn_i93 h) {k : Option px_V → px_M → Prop} {x0 : Nat} {x1 : Int32} {x2 : Int32} {x3 : Int32} : ∀ s : Int32 × px_M, oW (f_93_92 (px_tb C) x0 x1 x2 x3 s.1 s.2) (Sum.elim (fun s : Int32 × px_M => ∀ (z4 : Option px_V), px_W C k 65 [some (.inr (.inr (some x0))), some (.inl x1), some (.inl x2), some (.inl s.1), z4] [] s.2) (Sum.elim (fun s : Int32 × px_M => ∀ (z3 : Option px_V) (z4 : Option px_V), px_W C k 58 [some (.inr (.inr (some x0))), some (.inl x1), some (.inl s.1), z3, z4] [] s.2) (fun q => k (some (.inr (.inl q.1))) q.2))) → (fun s : Int32 × px_M => px_W C k 92 [some (.inr (.inr (some x0))), some (.inl x1), some (.inl x2), some (.inl x3), some (.inl s.1)] [] s.2) s := by
  intro s h0
  refine lpO_sound (P := (fun s : Int32 × px_M => px_W C k 92 [some (.inr (.inr (some x0))), some (.inl x1), some (.inl x2), some (.inl x3), some (.inl s.1)] [] s.2)) (fun s hs => ?_) h0
  obtain ⟨x4, σ⟩ := s
  refine px_runG (h - 1) ck_93 [(40, Sg_40 (f_40 (px_tb C)))] [(65, kp_93_65 (fun y0 y1 y2 y3 τ => y0 = x0 ∧ y1 = x1 ∧ y2 = x2 ∧ (fun s : Int32 × px_M => ∀ (z4 : Option px_V), px_W C k 65 [some (.inr (.inr (some x0))), some (.inl x1), some (.inl x2), some (.inl s.1), z4] [] s.2) (y3, τ))), (92, kp_93_92 (fun y0 y1 y2 y3 y4 τ => y0 = x0 ∧ y1 = x1 ∧ y2 = x2 ∧ y3 = x3 ∧ (fun s : Int32 × px_M => px_W C k 92 [some (.inr (.inr (some x0))), some (.inl x1), some (.inl x2), some (.inl x3), some (.inl s.1)] [] s.2) (y4, τ)))] 80 hC (px_sp1 (mf_40 hn (by omega)) px_nosp) (by omega) (px_cut1 (kq_93_65 (fun y0 y1 y2 y3 τ hq => by obtain ⟨rfl, rfl, rfl, hq⟩ := hq; exact hq)) (px_cut1 (kq_93_92 (fun y0 y1 y2 y3 y4 τ hq => by obtain ⟨rfl, rfl, rfl, rfl, hq⟩ := hq; exact hq)) px_nocut)) (fun G Jf hG hJf => ?_)
  simp only [F_93_92, oW_some, oW_none, oW_bind, oW_map, oW_ite, oW_bn, oW_gd, oW_oA, Sum.elim_inl, Sum.elim_inr, oW_and, true_and, and_true, false_and, and_false, true_or, or_true, false_or, or_false, and_self, or_self, not_false_eq_true, not_true_eq_false, false_implies, forall_const, true_implies, eq_self, ↓reduceIte] at hs
  simp only [↓hG, ↓hJf, ↓px_vc, ↓px_ex, ↓px_jp, ↓px_gi, ↓px_gl, ↓px_gr, ↓px_s1, ↓px_s2, ↓px_nl, ↓px_i1, ↓px_l1, ↓px_r1_o, ↓px_q1, ↓px_i2, ↓px_l2, ↓px_il, ↓px_d0, ↓px_d1, ↓px_d2, ↓px_pop, px_sz, ↓px_sp, ↓px_rd, ↓px_rf, ↓pn_xf, ↓px_pt, ↓px_rok, ↓px_rv_o, ↓px_fill, ↓px_sl, ↓px_sw, ↓pn_SW, lc_lt, lc_ge, lc_gt, lc_le, lc_eq, ↓reduceIte, Nat.reduceEqDiff, Nat.reduceLeDiff, Nat.reduceAdd, Nat.reduceSub, reduceCtorEq, List.length_cons, List.length_nil, Option.toList_some, Option.toList_none, List.cons_append, List.nil_append, true_and, and_true, false_and, and_false, true_or, or_true, false_or, or_false, and_self, or_self, not_false_eq_true, not_true_eq_false, false_implies, forall_const, true_implies, eq_self, ↓kI_s, ↓kJ_s, ↓kN_s, ↓kO_s, ↓kZ_s, ↓kE_s, oW_and, ↓bk_93, ↓pn_i93, oW_some, oW_none, oW_bind, oW_map, oW_ite, oW_bn, oW_gd, oW_oA, Sum.elim_inl, Sum.elim_inr, ↓Sg_40, ↓kp_93_65, ↓kp_93_92]
  exact hs
set_option maxHeartbeats 4000000 in
set_option maxRecDepth 100000 in
theorem rl_93_65 {C : px_C} (hn : px_nd (px_tb C)) {h : Nat} (hh : 3 ≤ h) (hC : px_ok C pn_i93 h) {k : Option px_V → px_M → Prop} {x0 : Nat} {x1 : Int32} {x2 : Int32} : ∀ s : Int32 × px_M, oW (f_93_65 (px_tb C) x0 x1 x2 s.1 s.2) (Sum.elim (fun s : Int32 × px_M => ∀ (z3 : Option px_V) (z4 : Option px_V), px_W C k 58 [some (.inr (.inr (some x0))), some (.inl x1), some (.inl s.1), z3, z4] [] s.2) (fun q => k (some (.inr (.inl q.1))) q.2)) → (fun s : Int32 × px_M => ∀ (z4 : Option px_V), px_W C k 65 [some (.inr (.inr (some x0))), some (.inl x1), some (.inl x2), some (.inl s.1), z4] [] s.2) s := by
  intro s h0
  refine lpO_sound (P := (fun s : Int32 × px_M => ∀ (z4 : Option px_V), px_W C k 65 [some (.inr (.inr (some x0))), some (.inl x1), some (.inl x2), some (.inl s.1), z4] [] s.2)) (fun s hs => ?_) h0
  obtain ⟨x3, σ⟩ := s
  intro z4
  refine px_runG (h - 1) ck_93 [] [(92, kp_93_92 (fun y0 y1 y2 y3 y4 τ => y0 = x0 ∧ y1 = x1 ∧ y2 = x2 ∧ oW (f_93_92 (px_tb C) y0 y1 y2 y3 y4 τ) (Sum.elim (fun s : Int32 × px_M => ∀ (z4 : Option px_V), px_W C k 65 [some (.inr (.inr (some x0))), some (.inl x1), some (.inl x2), some (.inl s.1), z4] [] s.2) (Sum.elim (fun s : Int32 × px_M => ∀ (z3 : Option px_V) (z4 : Option px_V), px_W C k 58 [some (.inr (.inr (some x0))), some (.inl x1), some (.inl s.1), z3, z4] [] s.2) (fun q => k (some (.inr (.inl q.1))) q.2))))), (145, kp_93_145 (fun y0 y1 y2 y3 τ => y0 = x0 ∧ y1 = x1 ∧ oW (f_93_145 (px_tb C) y0 y1 y2 y3 τ) (Sum.elim (fun s : Int32 × px_M => ∀ (z3 : Option px_V) (z4 : Option px_V), px_W C k 58 [some (.inr (.inr (some x0))), some (.inl x1), some (.inl s.1), z3, z4] [] s.2) (fun q => k (some (.inr (.inl q.1))) q.2))))] 80 hC px_nosp (by omega) (px_cut1 (kq_93_92 (fun y0 y1 y2 y3 y4 τ hq => by obtain ⟨rfl, rfl, rfl, hq⟩ := hq; exact rl_93_92 hn (by omega) hC (y4, τ) hq)) (px_cut1 (kq_93_145 (fun y0 y1 y2 y3 τ hq => by obtain ⟨rfl, rfl, hq⟩ := hq; exact rl_93_145 hn (by omega) hC (y3, τ) hq)) px_nocut)) (fun G Jf hG hJf => ?_)
  simp only [F_93_65, oW_some, oW_none, oW_bind, oW_map, oW_ite, oW_bn, oW_gd, oW_oA, Sum.elim_inl, Sum.elim_inr, oW_and, true_and, and_true, false_and, and_false, true_or, or_true, false_or, or_false, and_self, or_self, not_false_eq_true, not_true_eq_false, false_implies, forall_const, true_implies, eq_self, ↓reduceIte] at hs
  simp only [↓hG, ↓hJf, ↓px_vc, ↓px_ex, ↓px_jp, ↓px_gi, ↓px_gl, ↓px_gr, ↓px_s1, ↓px_s2, ↓px_nl, ↓px_i1, ↓px_l1, ↓px_r1_o, ↓px_q1, ↓px_i2, ↓px_l2, ↓px_il, ↓px_d0, ↓px_d1, ↓px_d2, ↓px_pop, px_sz, ↓px_sp, ↓px_rd, ↓px_rf, ↓pn_xf, ↓px_pt, ↓px_rok, ↓px_rv_o, ↓px_fill, ↓px_sl, ↓px_sw, ↓pn_SW, lc_lt, lc_ge, lc_gt, lc_le, lc_eq, ↓reduceIte, Nat.reduceEqDiff, Nat.reduceLeDiff, Nat.reduceAdd, Nat.reduceSub, reduceCtorEq, List.length_cons, List.length_nil, Option.toList_some, Option.toList_none, List.cons_append, List.nil_append, true_and, and_true, false_and, and_false, true_or, or_true, false_or, or_false, and_self, or_self, not_false_eq_true, not_true_eq_false, false_implies, forall_const, true_implies, eq_self, ↓kI_s, ↓kJ_s, ↓kN_s, ↓kO_s, ↓kZ_s, ↓kE_s, oW_and, ↓bk_93, ↓pn_i93, oW_some, oW_none, oW_bind, oW_map, oW_ite, oW_bn, oW_gd, oW_oA, Sum.elim_inl, Sum.elim_inr, ↓kp_93_92, ↓kp_93_145]
  exact hs
set_option maxHeartbeats 4000000 in
set_option maxRecDepth 100000 in
theorem rl_93_58 {C : px_C} (hn : px_nd (px_tb C)) {h : Nat} (hh : 3 ≤ h) (hC : px_ok C pn_i93 h) {k : Option px_V → px_M → Prop} {x0 : Nat} {x1 : Int32} : ∀ s : Int32 × px_M, oW (f_93_58 (px_tb C) x0 x1 s.1 s.2) (fun q => k (some (.inr (.inl q.1))) q.2) → (fun s : Int32 × px_M => ∀ (z3 : Option px_V) (z4 : Option px_V), px_W C k 58 [some (.inr (.inr (some x0))), some (.inl x1), some (.inl s.1), z3, z4] [] s.2) s := by
  intro s h0
  refine lpO_sound (P := (fun s : Int32 × px_M => ∀ (z3 : Option px_V) (z4 : Option px_V), px_W C k 58 [some (.inr (.inr (some x0))), some (.inl x1), some (.inl s.1), z3, z4] [] s.2)) (fun s hs => ?_) h0
  obtain ⟨x2, σ⟩ := s
  intro z3 z4
  refine px_runG (h - 1) ck_93 [] [(65, kp_93_65 (fun y0 y1 y2 y3 τ => y0 = x0 ∧ y1 = x1 ∧ oW (f_93_65 (px_tb C) y0 y1 y2 y3 τ) (Sum.elim (fun s : Int32 × px_M => ∀ (z3 : Option px_V) (z4 : Option px_V), px_W C k 58 [some (.inr (.inr (some x0))), some (.inl x1), some (.inl s.1), z3, z4] [] s.2) (fun q => k (some (.inr (.inl q.1))) q.2))))] 80 hC px_nosp (by omega) (px_cut1 (kq_93_65 (fun y0 y1 y2 y3 τ hq => by obtain ⟨rfl, rfl, hq⟩ := hq; exact rl_93_65 hn (by omega) hC (y3, τ) hq)) px_nocut) (fun G Jf hG hJf => ?_)
  simp only [F_93_58, oW_some, oW_none, oW_bind, oW_map, oW_ite, oW_bn, oW_gd, oW_oA, Sum.elim_inl, Sum.elim_inr, oW_and, true_and, and_true, false_and, and_false, true_or, or_true, false_or, or_false, and_self, or_self, not_false_eq_true, not_true_eq_false, false_implies, forall_const, true_implies, eq_self, ↓reduceIte] at hs
  simp only [↓hG, ↓hJf, ↓px_vc, ↓px_ex, ↓px_jp, ↓px_gi, ↓px_gl, ↓px_gr, ↓px_s1, ↓px_s2, ↓px_nl, ↓px_i1, ↓px_l1, ↓px_r1_o, ↓px_q1, ↓px_i2, ↓px_l2, ↓px_il, ↓px_d0, ↓px_d1, ↓px_d2, ↓px_pop, px_sz, ↓px_sp, ↓px_rd, ↓px_rf, ↓pn_xf, ↓px_pt, ↓px_rok, ↓px_rv_o, ↓px_fill, ↓px_sl, ↓px_sw, ↓pn_SW, lc_lt, lc_ge, lc_gt, lc_le, lc_eq, ↓reduceIte, Nat.reduceEqDiff, Nat.reduceLeDiff, Nat.reduceAdd, Nat.reduceSub, reduceCtorEq, List.length_cons, List.length_nil, Option.toList_some, Option.toList_none, List.cons_append, List.nil_append, true_and, and_true, false_and, and_false, true_or, or_true, false_or, or_false, and_self, or_self, not_false_eq_true, not_true_eq_false, false_implies, forall_const, true_implies, eq_self, ↓kI_s, ↓kJ_s, ↓kN_s, ↓kO_s, ↓kZ_s, ↓kE_s, oW_and, ↓bk_93, ↓pn_i93, oW_some, oW_none, oW_bind, oW_map, oW_ite, oW_bn, oW_gd, oW_oA, Sum.elim_inl, Sum.elim_inr, ↓kp_93_65]
  exact hs
set_option maxHeartbeats 4000000 in
set_option maxRecDepth 100000 in
theorem rl_93_23 {C : px_C} (hn : px_nd (px_tb C)) {h : Nat} (hh : 3 ≤ h) (hC : px_ok C pn_i93 h) {k : Option px_V → px_M → Prop} {x0 : Nat} {x1 : Int32} : ∀ s : Int32 × px_M, oW (f_93_23 (px_tb C) x0 x1 s.1 s.2) (fun q => k (some (.inr (.inl q.1))) q.2) → (fun s : Int32 × px_M => ∀ (z3 : Option px_V) (z4 : Option px_V), px_W C k 23 [some (.inr (.inr (some x0))), some (.inl x1), some (.inl s.1), z3, z4] [] s.2) s := by
  intro s h0
  refine lpO_sound (P := (fun s : Int32 × px_M => ∀ (z3 : Option px_V) (z4 : Option px_V), px_W C k 23 [some (.inr (.inr (some x0))), some (.inl x1), some (.inl s.1), z3, z4] [] s.2)) (fun s hs => ?_) h0
  obtain ⟨x2, σ⟩ := s
  intro z3 z4
  refine px_runG (h - 1) ck_93 [] [(23, kp_93_23 (fun y0 y1 y2 τ => y0 = x0 ∧ y1 = x1 ∧ (fun s : Int32 × px_M => ∀ (z3 : Option px_V) (z4 : Option px_V), px_W C k 23 [some (.inr (.inr (some x0))), some (.inl x1), some (.inl s.1), z3, z4] [] s.2) (y2, τ))), (58, kp_93_58 (fun y0 y1 y2 τ => oW (f_93_58 (px_tb C) y0 y1 y2 τ) (fun q => k (some (.inr (.inl q.1))) q.2)))] 80 hC px_nosp (by omega) (px_cut1 (kq_93_23 (fun y0 y1 y2 τ hq => by obtain ⟨rfl, rfl, hq⟩ := hq; exact hq)) (px_cut1 (kq_93_58 (fun y0 y1 y2 τ hq => by exact rl_93_58 hn (by omega) hC (y2, τ) hq)) px_nocut)) (fun G Jf hG hJf => ?_)
  simp only [F_93_23, oW_some, oW_none, oW_bind, oW_map, oW_ite, oW_bn, oW_gd, oW_oA, Sum.elim_inl, Sum.elim_inr, oW_and, true_and, and_true, false_and, and_false, true_or, or_true, false_or, or_false, and_self, or_self, not_false_eq_true, not_true_eq_false, false_implies, forall_const, true_implies, eq_self, ↓reduceIte] at hs
  simp only [↓hG, ↓hJf, ↓px_vc, ↓px_ex, ↓px_jp, ↓px_gi, ↓px_gl, ↓px_gr, ↓px_s1, ↓px_s2, ↓px_nl, ↓px_i1, ↓px_l1, ↓px_r1_o, ↓px_q1, ↓px_i2, ↓px_l2, ↓px_il, ↓px_d0, ↓px_d1, ↓px_d2, ↓px_pop, px_sz, ↓px_sp, ↓px_rd, ↓px_rf, ↓pn_xf, ↓px_pt, ↓px_rok, ↓px_rv_o, ↓px_fill, ↓px_sl, ↓px_sw, ↓pn_SW, lc_lt, lc_ge, lc_gt, lc_le, lc_eq, ↓reduceIte, Nat.reduceEqDiff, Nat.reduceLeDiff, Nat.reduceAdd, Nat.reduceSub, reduceCtorEq, List.length_cons, List.length_nil, Option.toList_some, Option.toList_none, List.cons_append, List.nil_append, true_and, and_true, false_and, and_false, true_or, or_true, false_or, or_false, and_self, or_self, not_false_eq_true, not_true_eq_false, false_implies, forall_const, true_implies, eq_self, ↓kI_s, ↓kJ_s, ↓kN_s, ↓kO_s, ↓kZ_s, ↓kE_s, oW_and, ↓bk_93, ↓pn_i93, oW_some, oW_none, oW_bind, oW_map, oW_ite, oW_bn, oW_gd, oW_oA, Sum.elim_inl, Sum.elim_inr, ↓kp_93_23, ↓kp_93_58]
  exact hs
set_option maxHeartbeats 4000000 in
set_option maxRecDepth 100000 in
theorem mf_93 {tab : px_T} (hn : px_nd tab) {h : Nat} (hh : 3 ≤ h) : px_Ok tab pn_i93 h (Sg_93 (f_93 tab)) := by
  refine px_mth hn (by decide +kernel) (fun av σ k hS => ?_) (fun C hT hC av σ k hS => ?_)
  · obtain ⟨x0, av0, e0, h0⟩ := px_r1_spec hS
    obtain ⟨x1, av1, e1, h1⟩ := px_i1_spec h0
    obtain ⟨ez, hz⟩ := h1
    subst ez
    subst e1
    subst e0
    exact Nat.le_of_ble_eq_true rfl
  · obtain ⟨x0, av0, e0, h0⟩ := px_r1_spec hS
    obtain ⟨x1, av1, e1, h1⟩ := px_i1_spec h0
    obtain ⟨ez, hz⟩ := h1
    subst ez
    subst e1
    subst e0
    subst hT
    refine px_runG (h - 1) ck_93 [(2, Sg_2 (f_2 (px_tb C)))] [(23, kp_93_23 (fun y0 y1 y2 τ => oW (f_93_23 (px_tb C) y0 y1 y2 τ) (fun q => k (some (.inr (.inl q.1))) q.2)))] 80 hC (px_sp1 (mf_2 hn (by omega)) px_nosp) (by omega) (px_cut1 (kq_93_23 (fun y0 y1 y2 τ hq => by exact rl_93_23 hn (by omega) hC (y2, τ) hq)) px_nocut) (fun G Jf hG hJf => ?_)
    simp only [f_93, oW_some, oW_none, oW_bind, oW_map, oW_ite, oW_bn, oW_gd, oW_oA, Sum.elim_inl, Sum.elim_inr, oW_and, true_and, and_true, false_and, and_false, true_or, or_true, false_or, or_false, and_self, or_self, not_false_eq_true, not_true_eq_false, false_implies, forall_const, true_implies, eq_self, ↓reduceIte] at hz
    simp only [↓hG, ↓hJf, ↓px_vc, ↓px_ex, ↓px_jp, ↓px_gi, ↓px_gl, ↓px_gr, ↓px_s1, ↓px_s2, ↓px_nl, ↓px_i1, ↓px_l1, ↓px_r1_o, ↓px_q1, ↓px_i2, ↓px_l2, ↓px_il, ↓px_d0, ↓px_d1, ↓px_d2, ↓px_pop, px_sz, ↓px_sp, ↓px_rd, ↓px_rf, ↓pn_xf, ↓px_pt, ↓px_rok, ↓px_rv_o, ↓px_fill, ↓px_sl, ↓px_sw, ↓pn_SW, lc_lt, lc_ge, lc_gt, lc_le, lc_eq, ↓reduceIte, Nat.reduceEqDiff, Nat.reduceLeDiff, Nat.reduceAdd, Nat.reduceSub, reduceCtorEq, List.length_cons, List.length_nil, Option.toList_some, Option.toList_none, List.cons_append, List.nil_append, true_and, and_true, false_and, and_false, true_or, or_true, false_or, or_false, and_self, or_self, not_false_eq_true, not_true_eq_false, false_implies, forall_const, true_implies, eq_self, ↓kI_s, ↓kJ_s, ↓kN_s, ↓kO_s, ↓kZ_s, ↓kE_s, oW_and, ↓bk_93, ↓pn_i93, oW_some, oW_none, oW_bind, oW_map, oW_ite, oW_bn, oW_gd, oW_oA, Sum.elim_inl, Sum.elim_inr, ↓Sg_2, ↓kp_93_23]
    exact hz
def Sg_94 (g : px_M → Nat → Option (Int32 × px_M)) : px_S := fun av σ k => px_r1 av (fun x0 av => av = [] ∧ oW (g σ x0) (fun q => k (some (.inl q.1)) q.2))
/-- NoThreeModel.dear()I -/
noncomputable def F_94_13 (tab : px_T) (x0 : Nat) (x1 : Int32) (x2 : Int32) (σ : px_M) : Option ((Int32 × px_M) ⊕ (Int32 × px_M)) := gd (px_obj (px_lay tab x0) 0) ((((σ).2.2 x0 1)).bind fun n1 => oA (px_lay tab n1) fun t2 l3 => gd (t2 = 0 ∨ t2 = 11) (gd (vp_in (nI 1) l3) (if (px_av t2 σ n1 ((nI 1)).toNatClampNeg) ≤ x2 then (some (.inr (((-1), σ)))) else (gd (px_obj (px_lay tab x0) 0) ((f_43 tab σ x0 x2).bind fun q4 => if x1 ≤ q4.1 then (some (.inl (((x2 + (nI 1)), q4.2)))) else (some (.inr ((x2, q4.2)))))))))
noncomputable def f_94_13 (tab : px_T) (x0 : Nat) (x1 : Int32) (x2 : Int32) (σ : px_M) : Option (Int32 × px_M) := lpO (fun s : Int32 × px_M => F_94_13 tab x0 x1 s.1 s.2) (x2, σ)
theorem f_94_13_eq (tab : px_T) (x0 : Nat) (x1 : Int32) (x2 : Int32) (σ : px_M) : f_94_13 tab x0 x1 x2 σ = (F_94_13 tab x0 x1 x2 σ).bind (Sum.elim (fun s => f_94_13 tab x0 x1 s.1 s.2) some) := lpO_eq _ _
noncomputable def f_94 (tab : px_T) (σ : px_M) (x0 : Nat) : Option (Int32 × px_M) := gd (px_obj (px_lay tab x0) 0) (gd (px_obj (px_lay tab x0) 0) ((f_43 tab (px_wi σ x0 0 (nI 0)) x0 ((-1))).bind fun q1 => f_94_13 tab x0 q1.1 ((nI 0)) q1.2))
def kp_94_13 (Q : Nat → Int32 → Int32 → px_M → Prop) : px_P := fun ls st τ => st = [] ∧ kN ls (fun x0 ls => kI ls (fun x1 ls => kI ls (fun x2 ls => kE ls (Q x0 x1 x2 τ))))
theorem kq_94_13 {C : px_C} {k : Option px_V → px_M → Prop} {Q : Nat → Int32 → Int32 → px_M → Prop} (H : ∀ (x0 : Nat) (x1 : Int32) (x2 : Int32) (τ : px_M), Q x0 x1 x2 τ → px_W C k 13 [some (.inr (.inr (some x0))), some (.inl x1), some (.inl x2)] [] τ) : ∀ ls st τ, kp_94_13 Q ls st τ → px_W C k 13 ls st τ := by
  intro ls st τ hz
  obtain ⟨ez, h0⟩ := hz
  obtain ⟨x0, l0, e0, h1⟩ := kN_sp h0
  obtain ⟨x1, l1, e1, h2⟩ := kI_sp h1
  obtain ⟨x2, l2, e2, h3⟩ := kI_sp h2
  obtain ⟨ey, hy⟩ := kE_sp h3
  subst ez
  subst ey
  subst e2
  subst e1
  subst e0
  exact H x0 x1 x2 τ hy
set_option maxHeartbeats 4000000 in
set_option maxRecDepth 100000 in
theorem rl_94_13 {C : px_C} (hn : px_nd (px_tb C)) {h : Nat} (hh : 28 ≤ h) (hC : px_ok C pn_i94 h) {k : Option px_V → px_M → Prop} {x0 : Nat} {x1 : Int32} : ∀ s : Int32 × px_M, oW (f_94_13 (px_tb C) x0 x1 s.1 s.2) (fun q => k (some (.inl q.1)) q.2) → (fun s : Int32 × px_M => px_W C k 13 [some (.inr (.inr (some x0))), some (.inl x1), some (.inl s.1)] [] s.2) s := by
  intro s h0
  refine lpO_sound (P := (fun s : Int32 × px_M => px_W C k 13 [some (.inr (.inr (some x0))), some (.inl x1), some (.inl s.1)] [] s.2)) (fun s hs => ?_) h0
  obtain ⟨x2, σ⟩ := s
  refine px_runG (h - 1) ck_94 [(43, Sg_43 (f_43 (px_tb C)))] [(13, kp_94_13 (fun y0 y1 y2 τ => y0 = x0 ∧ y1 = x1 ∧ (fun s : Int32 × px_M => px_W C k 13 [some (.inr (.inr (some x0))), some (.inl x1), some (.inl s.1)] [] s.2) (y2, τ)))] 80 hC (px_sp1 (mf_43 hn (by omega)) px_nosp) (by omega) (px_cut1 (kq_94_13 (fun y0 y1 y2 τ hq => by obtain ⟨rfl, rfl, hq⟩ := hq; exact hq)) px_nocut) (fun G Jf hG hJf => ?_)
  simp only [F_94_13, oW_some, oW_none, oW_bind, oW_map, oW_ite, oW_bn, oW_gd, oW_oA, Sum.elim_inl, Sum.elim_inr, oW_and, true_and, and_true, false_and, and_false, true_or, or_true, false_or, or_false, and_self, or_self, not_false_eq_true, not_true_eq_false, false_implies, forall_const, true_implies, eq_self, ↓reduceIte] at hs
  simp only [↓hG, ↓hJf, ↓px_vc, ↓px_ex, ↓px_jp, ↓px_gi, ↓px_gl, ↓px_gr, ↓px_s1, ↓px_s2, ↓px_nl, ↓px_i1, ↓px_l1, ↓px_r1_o, ↓px_q1, ↓px_i2, ↓px_l2, ↓px_il, ↓px_d0, ↓px_d1, ↓px_d2, ↓px_pop, px_sz, ↓px_sp, ↓px_rd, ↓px_rf, ↓pn_xf, ↓px_pt, ↓px_rok, ↓px_rv_o, ↓px_fill, ↓px_sl, ↓px_sw, ↓pn_SW, lc_lt, lc_ge, lc_gt, lc_le, lc_eq, ↓reduceIte, Nat.reduceEqDiff, Nat.reduceLeDiff, Nat.reduceAdd, Nat.reduceSub, reduceCtorEq, List.length_cons, List.length_nil, Option.toList_some, Option.toList_none, List.cons_append, List.nil_append, true_and, and_true, false_and, and_false, true_or, or_true, false_or, or_false, and_self, or_self, not_false_eq_true, not_true_eq_false, false_implies, forall_const, true_implies, eq_self, ↓kI_s, ↓kJ_s, ↓kN_s, ↓kO_s, ↓kZ_s, ↓kE_s, oW_and, ↓bk_94, ↓pn_i94, oW_some, oW_none, oW_bind, oW_map, oW_ite, oW_bn, oW_gd, oW_oA, Sum.elim_inl, Sum.elim_inr, ↓Sg_43, ↓kp_94_13]
  exact hs
set_option maxHeartbeats 4000000 in
set_option maxRecDepth 100000 in
theorem mf_94 {tab : px_T} (hn : px_nd tab) {h : Nat} (hh : 28 ≤ h) : px_Ok tab pn_i94 h (Sg_94 (f_94 tab)) := by
  refine px_mth hn (by decide +kernel) (fun av σ k hS => ?_) (fun C hT hC av σ k hS => ?_)
  · obtain ⟨x0, av0, e0, h0⟩ := px_r1_spec hS
    obtain ⟨ez, hz⟩ := h0
    subst ez
    subst e0
    exact Nat.le_of_ble_eq_true rfl
  · obtain ⟨x0, av0, e0, h0⟩ := px_r1_spec hS
    obtain ⟨ez, hz⟩ := h0
    subst ez
    subst e0
    subst hT
    refine px_runG (h - 1) ck_94 [(43, Sg_43 (f_43 (px_tb C)))] [(13, kp_94_13 (fun y0 y1 y2 τ => oW (f_94_13 (px_tb C) y0 y1 y2 τ) (fun q => k (some (.inl q.1)) q.2)))] 80 hC (px_sp1 (mf_43 hn (by omega)) px_nosp) (by omega) (px_cut1 (kq_94_13 (fun y0 y1 y2 τ hq => by exact rl_94_13 hn (by omega) hC (y2, τ) hq)) px_nocut) (fun G Jf hG hJf => ?_)
    simp only [f_94, oW_some, oW_none, oW_bind, oW_map, oW_ite, oW_bn, oW_gd, oW_oA, Sum.elim_inl, Sum.elim_inr, oW_and, true_and, and_true, false_and, and_false, true_or, or_true, false_or, or_false, and_self, or_self, not_false_eq_true, not_true_eq_false, false_implies, forall_const, true_implies, eq_self, ↓reduceIte] at hz
    simp only [↓hG, ↓hJf, ↓px_vc, ↓px_ex, ↓px_jp, ↓px_gi, ↓px_gl, ↓px_gr, ↓px_s1, ↓px_s2, ↓px_nl, ↓px_i1, ↓px_l1, ↓px_r1_o, ↓px_q1, ↓px_i2, ↓px_l2, ↓px_il, ↓px_d0, ↓px_d1, ↓px_d2, ↓px_pop, px_sz, ↓px_sp, ↓px_rd, ↓px_rf, ↓pn_xf, ↓px_pt, ↓px_rok, ↓px_rv_o, ↓px_fill, ↓px_sl, ↓px_sw, ↓pn_SW, lc_lt, lc_ge, lc_gt, lc_le, lc_eq, ↓reduceIte, Nat.reduceEqDiff, Nat.reduceLeDiff, Nat.reduceAdd, Nat.reduceSub, reduceCtorEq, List.length_cons, List.length_nil, Option.toList_some, Option.toList_none, List.cons_append, List.nil_append, true_and, and_true, false_and, and_false, true_or, or_true, false_or, or_false, and_self, or_self, not_false_eq_true, not_true_eq_false, false_implies, forall_const, true_implies, eq_self, ↓kI_s, ↓kJ_s, ↓kN_s, ↓kO_s, ↓kZ_s, ↓kE_s, oW_and, ↓bk_94, ↓pn_i94, oW_some, oW_none, oW_bind, oW_map, oW_ite, oW_bn, oW_gd, oW_oA, Sum.elim_inl, Sum.elim_inr, ↓Sg_43, ↓kp_94_13]
    exact hz
def Sg_95 (g : px_M → Nat → Int32 → Int32 → Int32 → Option (px_M)) : px_S := fun av σ k => px_r1 av (fun x0 av => px_i1 av (fun x1 av => px_i1 av (fun x2 av => px_i1 av (fun x3 av => av = [] ∧ oW (g σ x0 x1 x2 x3) (fun τ => k none τ)))))
/-- NoThreeModel.tells(III)V -/
noncomputable def f_95_89 (tab : px_T) (g95 : px_M → Nat → Int32 → Int32 → Int32 → Option (px_M)) (σ : px_M) (x0 : Nat) (x1 : Int32) (x2 : Int32) (x3 : Int32) (x4 : Int32) : Option ((Int32 × px_M) ⊕ (px_M)) := some (.inl (((x4 + (nI 1)), σ)))
noncomputable def f_95_65 (tab : px_T) (g95 : px_M → Nat → Int32 → Int32 → Int32 → Option (px_M)) (σ : px_M) (x0 : Nat) (x1 : Int32) (x2 : Int32) (x3 : Int32) (x4 : Int32) : Option ((Int32 × px_M) ⊕ (px_M)) := (f_14 tab σ ((x3).toInt64) x4).bind fun r1 => bn (r1 = nI 0) (f_95_89 tab g95 σ x0 x1 x2 x3 x4) (gd (px_obj (px_lay tab x0) 0) ((g95 σ x0 ((x1 + (nI 1))) x2 ((x3 ||| ((nI 1) <<< (x4 &&& 31))))).bind fun q2 => f_95_89 tab g95 q2 x0 x1 x2 x3 x4))
noncomputable def F_95_40 (tab : px_T) (g95 : px_M → Nat → Int32 → Int32 → Int32 → Option (px_M)) (x0 : Nat) (x1 : Int32) (x2 : Int32) (x3 : Int32) (x4 : Int32) (σ : px_M) : Option ((Int32 × px_M) ⊕ (px_M)) := gd (px_obj (px_lay tab x0) 0) ((((σ).2.2 x0 1)).bind fun n1 => oA (px_lay tab n1) fun t2 l3 => gd (t2 = 0 ∨ t2 = 11) (gd (vp_in (nI 1) l3) (if (px_av t2 σ n1 ((nI 1)).toNatClampNeg) ≤ x4 then (some (.inr (σ))) else (gd (px_obj (px_lay tab x0) 0) ((f_31 tab σ x0 x1).bind fun r4 => (f_14 tab σ ((r4).toInt64) x4).bind fun r5 => if r5 = nI 0 then (f_95_89 tab g95 σ x0 x1 x2 x3 x4) else (f_95_65 tab g95 σ x0 x1 x2 x3 x4))))))
noncomputable def f_95_40 (tab : px_T) (g95 : px_M → Nat → Int32 → Int32 → Int32 → Option (px_M)) (x0 : Nat) (x1 : Int32) (x2 : Int32) (x3 : Int32) (x4 : Int32) (σ : px_M) : Option (px_M) := lpO (fun s : Int32 × px_M => F_95_40 tab g95 x0 x1 x2 x3 s.1 s.2) (x4, σ)
theorem f_95_40_eq (tab : px_T) (g95 : px_M → Nat → Int32 → Int32 → Int32 → Option (px_M)) (x0 : Nat) (x1 : Int32) (x2 : Int32) (x3 : Int32) (x4 : Int32) (σ : px_M) : f_95_40 tab g95 x0 x1 x2 x3 x4 σ = (F_95_40 tab g95 x0 x1 x2 x3 x4 σ).bind (Sum.elim (fun s => f_95_40 tab g95 x0 x1 x2 x3 s.1 s.2) some) := lpO_eq _ _
noncomputable def f_95_37 (tab : px_T) (g95 : px_M → Nat → Int32 → Int32 → Int32 → Option (px_M)) (σ : px_M) (x0 : Nat) (x1 : Int32) (x2 : Int32) (x3 : Int32) : Option (px_M) := f_95_40 tab g95 x0 x1 x2 x3 ((nI 0)) σ
noncomputable def F_95 (tab : px_T) (g95 : px_M → Nat → Int32 → Int32 → Int32 → Option (px_M)) (σ : px_M) (x0 : Nat) (x1 : Int32) (x2 : Int32) (x3 : Int32) : Option (px_M) := gd (px_obj (px_lay tab x0) 0) ((((σ).2.2 x0 1)).bind fun n1 => oA (px_lay tab n1) fun t2 l3 => gd (t2 = 0 ∨ t2 = 11) (gd (vp_in (nI 1) l3) (bn (x1 = (px_av t2 σ n1 ((nI 1)).toNatClampNeg)) (gd (px_obj (px_lay tab x0) 0) ((g95 σ x0 ((x1 + (nI 1))) x2 x3).bind fun q4 => (f_14 tab q4 ((x2).toInt64) x1).bind fun r5 => bn (r5 = nI 0) (f_95_37 tab g95 q4 x0 x1 x2 x3) (some (q4)))) (gd (px_obj (px_lay tab x0) 0) ((((σ).2.2 x0 25)).bind fun n6 => oA (px_lay tab n6) fun t7 l8 => gd ((t7 = 1 ∧ ((nI 1)).toInt8.toInt32 = (nI 1)) ∨ (t7 = 2 ∧ ((nI 1) = nI 0 ∨ (nI 1) = nI 1))) (gd (vp_in x3 l8) (some ((px_wi σ n6 (x3).toNatClampNeg (nI 1))))))))))
def kp_95_89 (Q : Nat → Int32 → Int32 → Int32 → Int32 → px_M → Prop) : px_P := fun ls st τ => st = [] ∧ kN ls (fun x0 ls => kI ls (fun x1 ls => kI ls (fun x2 ls => kI ls (fun x3 ls => kI ls (fun x4 ls => kE ls (Q x0 x1 x2 x3 x4 τ))))))
theorem kq_95_89 {C : px_C} {k : Option px_V → px_M → Prop} {Q : Nat → Int32 → Int32 → Int32 → Int32 → px_M → Prop} (H : ∀ (x0 : Nat) (x1 : Int32) (x2 : Int32) (x3 : Int32) (x4 : Int32) (τ : px_M), Q x0 x1 x2 x3 x4 τ → px_W C k 89 [some (.inr (.inr (some x0))), some (.inl x1), some (.inl x2), some (.inl x3), some (.inl x4)] [] τ) : ∀ ls st τ, kp_95_89 Q ls st τ → px_W C k 89 ls st τ := by
  intro ls st τ hz
  obtain ⟨ez, h0⟩ := hz
  obtain ⟨x0, l0, e0, h1⟩ := kN_sp h0
  obtain ⟨x1, l1, e1, h2⟩ := kI_sp h1
  obtain ⟨x2, l2, e2, h3⟩ := kI_sp h2
  obtain ⟨x3, l3, e3, h4⟩ := kI_sp h3
  obtain ⟨x4, l4, e4, h5⟩ := kI_sp h4
  obtain ⟨ey, hy⟩ := kE_sp h5
  subst ez
  subst ey
  subst e4
  subst e3
  subst e2
  subst e1
  subst e0
  exact H x0 x1 x2 x3 x4 τ hy
def kp_95_65 (Q : Nat → Int32 → Int32 → Int32 → Int32 → px_M → Prop) : px_P := fun ls st τ => st = [] ∧ kN ls (fun x0 ls => kI ls (fun x1 ls => kI ls (fun x2 ls => kI ls (fun x3 ls => kI ls (fun x4 ls => kE ls (Q x0 x1 x2 x3 x4 τ))))))
theorem kq_95_65 {C : px_C} {k : Option px_V → px_M → Prop} {Q : Nat → Int32 → Int32 → Int32 → Int32 → px_M → Prop} (H : ∀ (x0 : Nat) (x1 : Int32) (x2 : Int32) (x3 : Int32) (x4 : Int32) (τ : px_M), Q x0 x1 x2 x3 x4 τ → px_W C k 65 [some (.inr (.inr (some x0))), some (.inl x1), some (.inl x2), some (.inl x3), some (.inl x4)] [] τ) : ∀ ls st τ, kp_95_65 Q ls st τ → px_W C k 65 ls st τ := by
  intro ls st τ hz
  obtain ⟨ez, h0⟩ := hz
  obtain ⟨x0, l0, e0, h1⟩ := kN_sp h0
  obtain ⟨x1, l1, e1, h2⟩ := kI_sp h1
  obtain ⟨x2, l2, e2, h3⟩ := kI_sp h2
  obtain ⟨x3, l3, e3, h4⟩ := kI_sp h3
  obtain ⟨x4, l4, e4, h5⟩ := kI_sp h4
  obtain ⟨ey, hy⟩ := kE_sp h5
  subst ez
  subst ey
  subst e4
  subst e3
  subst e2
  subst e1
  subst e0
  exact H x0 x1 x2 x3 x4 τ hy
def kp_95_40 (Q : Nat → Int32 → Int32 → Int32 → Int32 → px_M → Prop) : px_P := fun ls st τ => st = [] ∧ kN ls (fun x0 ls => kI ls (fun x1 ls => kI ls (fun x2 ls => kI ls (fun x3 ls => kI ls (fun x4 ls => kE ls (Q x0 x1 x2 x3 x4 τ))))))
theorem kq_95_40 {C : px_C} {k : Option px_V → px_M → Prop} {Q : Nat → Int32 → Int32 → Int32 → Int32 → px_M → Prop} (H : ∀ (x0 : Nat) (x1 : Int32) (x2 : Int32) (x3 : Int32) (x4 : Int32) (τ : px_M), Q x0 x1 x2 x3 x4 τ → px_W C k 40 [some (.inr (.inr (some x0))), some (.inl x1), some (.inl x2), some (.inl x3), some (.inl x4)] [] τ) : ∀ ls st τ, kp_95_40 Q ls st τ → px_W C k 40 ls st τ := by
  intro ls st τ hz
  obtain ⟨ez, h0⟩ := hz
  obtain ⟨x0, l0, e0, h1⟩ := kN_sp h0
  obtain ⟨x1, l1, e1, h2⟩ := kI_sp h1
  obtain ⟨x2, l2, e2, h3⟩ := kI_sp h2
  obtain ⟨x3, l3, e3, h4⟩ := kI_sp h3
  obtain ⟨x4, l4, e4, h5⟩ := kI_sp h4
  obtain ⟨ey, hy⟩ := kE_sp h5
  subst ez
  subst ey
  subst e4
  subst e3
  subst e2
  subst e1
  subst e0
  exact H x0 x1 x2 x3 x4 τ hy
def kp_95_37 (Q : Nat → Int32 → Int32 → Int32 → px_M → Prop) : px_P := fun ls st τ => st = [] ∧ kN ls (fun x0 ls => kI ls (fun x1 ls => kI ls (fun x2 ls => kI ls (fun x3 ls => kZ ls (fun ls => kE ls (Q x0 x1 x2 x3 τ))))))
theorem kq_95_37 {C : px_C} {k : Option px_V → px_M → Prop} {Q : Nat → Int32 → Int32 → Int32 → px_M → Prop} (H : ∀ (x0 : Nat) (x1 : Int32) (x2 : Int32) (x3 : Int32) (τ : px_M), Q x0 x1 x2 x3 τ → ∀ (z4 : Option px_V), px_W C k 37 [some (.inr (.inr (some x0))), some (.inl x1), some (.inl x2), some (.inl x3), z4] [] τ) : ∀ ls st τ, kp_95_37 Q ls st τ → px_W C k 37 ls st τ := by
  intro ls st τ hz
  obtain ⟨ez, h0⟩ := hz
  obtain ⟨x0, l0, e0, h1⟩ := kN_sp h0
  obtain ⟨x1, l1, e1, h2⟩ := kI_sp h1
  obtain ⟨x2, l2, e2, h3⟩ := kI_sp h2
  obtain ⟨x3, l3, e3, h4⟩ := kI_sp h3
  obtain ⟨z4, l4, e4, h5⟩ := kZ_sp h4
  obtain ⟨ey, hy⟩ := kE_sp h5
  subst ez
  subst ey
  subst e4
  subst e3
  subst e2
  subst e1
  subst e0
  exact H x0 x1 x2 x3 τ hy z4
set_option maxHeartbeats 4000000 in
set_option maxRecDepth 100000 in
theorem rl_95_89 {C : px_C} (hn : px_nd (px_tb C)) {h : Nat} (hh : 2 ≤ h) (hC : px_ok C pn_i95 h) {g95 : px_M → Nat → Int32 → Int32 → Int32 → Option (px_M)} (hg95 : px_Ok (px_tb C) pn_i95 (h - 1) (Sg_95 g95)) {k : Option px_V → px_M → Prop} {x0 : Nat} {x1 : Int32} {x2 : Int32} {x3 : Int32} {x4 : Int32} {σ : px_M} (hs : oW (f_95_89 (px_tb C) g95 σ x0 x1 x2 x3 x4) (Sum.elim (fun s : Int32 × px_M => px_W C k 40 [some (.inr (.inr (some x0))), some (.inl x1), some (.inl x2), some (.inl x3), some (.inl s.1)] [] s.2) (fun τ => k none τ))) : px_W C k 89 [some (.inr (.inr (some x0))), some (.inl x1), some (.inl x2), some (.inl x3), some (.inl x4)] [] σ := by
  refine px_runG (h - 1) ck_95 [] [(40, kp_95_40 (fun y0 y1 y2 y3 y4 τ => y0 = x0 ∧ y1 = x1 ∧ y2 = x2 ∧ y3 = x3 ∧ (fun s : Int32 × px_M => px_W C k 40 [some (.inr (.inr (some x0))), some (.inl x1), some (.inl x2), some (.inl x3), some (.inl s.1)] [] s.2) (y4, τ)))] 80 hC px_nosp (by omega) (px_cut1 (kq_95_40 (fun y0 y1 y2 y3 y4 τ hq => by obtain ⟨rfl, rfl, rfl, rfl, hq⟩ := hq; exact hq)) px_nocut) (fun G Jf hG hJf => ?_)
  simp only [f_95_89, oW_some, oW_none, oW_bind, oW_map, oW_ite, oW_bn, oW_gd, oW_oA, Sum.elim_inl, Sum.elim_inr, oW_and, true_and, and_true, false_and, and_false, true_or, or_true, false_or, or_false, and_self, or_self, not_false_eq_true, not_true_eq_false, false_implies, forall_const, true_implies, eq_self, ↓reduceIte] at hs
  simp only [↓hG, ↓hJf, ↓px_vc, ↓px_ex, ↓px_jp, ↓px_gi, ↓px_gl, ↓px_gr, ↓px_s1, ↓px_s2, ↓px_nl, ↓px_i1, ↓px_l1, ↓px_r1_o, ↓px_q1, ↓px_i2, ↓px_l2, ↓px_il, ↓px_d0, ↓px_d1, ↓px_d2, ↓px_pop, px_sz, ↓px_sp, ↓px_rd, ↓px_rf, ↓pn_xf, ↓px_pt, ↓px_rok, ↓px_rv_o, ↓px_fill, ↓px_sl, ↓px_sw, ↓pn_SW, lc_lt, lc_ge, lc_gt, lc_le, lc_eq, ↓reduceIte, Nat.reduceEqDiff, Nat.reduceLeDiff, Nat.reduceAdd, Nat.reduceSub, reduceCtorEq, List.length_cons, List.length_nil, Option.toList_some, Option.toList_none, List.cons_append, List.nil_append, true_and, and_true, false_and, and_false, true_or, or_true, false_or, or_false, and_self, or_self, not_false_eq_true, not_true_eq_false, false_implies, forall_const, true_implies, eq_self, ↓kI_s, ↓kJ_s, ↓kN_s, ↓kO_s, ↓kZ_s, ↓kE_s, oW_and, ↓bk_95, ↓pn_i95, oW_some, oW_none, oW_bind, oW_map, oW_ite, oW_bn, oW_gd, oW_oA, Sum.elim_inl, Sum.elim_inr, ↓kp_95_40]
  exact hs
set_option maxHeartbeats 4000000 in
set_option maxRecDepth 100000 in
theorem rl_95_65 {C : px_C} (hn : px_nd (px_tb C)) {h : Nat} (hh : 2 ≤ h) (hC : px_ok C pn_i95 h) {g95 : px_M → Nat → Int32 → Int32 → Int32 → Option (px_M)} (hg95 : px_Ok (px_tb C) pn_i95 (h - 1) (Sg_95 g95)) {k : Option px_V → px_M → Prop} {x0 : Nat} {x1 : Int32} {x2 : Int32} {x3 : Int32} {x4 : Int32} {σ : px_M} (hs : oW (f_95_65 (px_tb C) g95 σ x0 x1 x2 x3 x4) (Sum.elim (fun s : Int32 × px_M => px_W C k 40 [some (.inr (.inr (some x0))), some (.inl x1), some (.inl x2), some (.inl x3), some (.inl s.1)] [] s.2) (fun τ => k none τ))) : px_W C k 65 [some (.inr (.inr (some x0))), some (.inl x1), some (.inl x2), some (.inl x3), some (.inl x4)] [] σ := by
  refine px_runG (h - 1) ck_95 [(14, Sg_14 (f_14 (px_tb C))), (95, Sg_95 g95)] [(89, kp_95_89 (fun y0 y1 y2 y3 y4 τ => y0 = x0 ∧ y1 = x1 ∧ y2 = x2 ∧ y3 = x3 ∧ oW (f_95_89 (px_tb C) g95 τ y0 y1 y2 y3 y4) (Sum.elim (fun s : Int32 × px_M => px_W C k 40 [some (.inr (.inr (some x0))), some (.inl x1), some (.inl x2), some (.inl x3), some (.inl s.1)] [] s.2) (fun τ => k none τ))))] 80 hC (px_sp1 (mf_14 hn (by omega)) (px_sp1 (hg95) px_nosp)) (by omega) (px_cut1 (kq_95_89 (fun y0 y1 y2 y3 y4 τ hq => by obtain ⟨rfl, rfl, rfl, rfl, hq⟩ := hq; exact rl_95_89 hn (by omega) hC hg95  hq)) px_nocut) (fun G Jf hG hJf => ?_)
  simp only [f_95_65, oW_some, oW_none, oW_bind, oW_map, oW_ite, oW_bn, oW_gd, oW_oA, Sum.elim_inl, Sum.elim_inr, oW_and, true_and, and_true, false_and, and_false, true_or, or_true, false_or, or_false, and_self, or_self, not_false_eq_true, not_true_eq_false, false_implies, forall_const, true_implies, eq_self, ↓reduceIte] at hs
  simp only [↓hG, ↓hJf, ↓px_vc, ↓px_ex, ↓px_jp, ↓px_gi, ↓px_gl, ↓px_gr, ↓px_s1, ↓px_s2, ↓px_nl, ↓px_i1, ↓px_l1, ↓px_r1_o, ↓px_q1, ↓px_i2, ↓px_l2, ↓px_il, ↓px_d0, ↓px_d1, ↓px_d2, ↓px_pop, px_sz, ↓px_sp, ↓px_rd, ↓px_rf, ↓pn_xf, ↓px_pt, ↓px_rok, ↓px_rv_o, ↓px_fill, ↓px_sl, ↓px_sw, ↓pn_SW, lc_lt, lc_ge, lc_gt, lc_le, lc_eq, ↓reduceIte, Nat.reduceEqDiff, Nat.reduceLeDiff, Nat.reduceAdd, Nat.reduceSub, reduceCtorEq, List.length_cons, List.length_nil, Option.toList_some, Option.toList_none, List.cons_append, List.nil_append, true_and, and_true, false_and, and_false, true_or, or_true, false_or, or_false, and_self, or_self, not_false_eq_true, not_true_eq_false, false_implies, forall_const, true_implies, eq_self, ↓kI_s, ↓kJ_s, ↓kN_s, ↓kO_s, ↓kZ_s, ↓kE_s, oW_and, ↓bk_95, ↓pn_i95, oW_some, oW_none, oW_bind, oW_map, oW_ite, oW_bn, oW_gd, oW_oA, Sum.elim_inl, Sum.elim_inr, ↓Sg_14, ↓Sg_95, ↓kp_95_89]
  exact hs
set_option maxHeartbeats 4000000 in
set_option maxRecDepth 100000 in
theorem rl_95_40 {C : px_C} (hn : px_nd (px_tb C)) {h : Nat} (hh : 2 ≤ h) (hC : px_ok C pn_i95 h) {g95 : px_M → Nat → Int32 → Int32 → Int32 → Option (px_M)} (hg95 : px_Ok (px_tb C) pn_i95 (h - 1) (Sg_95 g95)) {k : Option px_V → px_M → Prop} {x0 : Nat} {x1 : Int32} {x2 : Int32} {x3 : Int32} : ∀ s : Int32 × px_M, oW (f_95_40 (px_tb C) g95 x0 x1 x2 x3 s.1 s.2) (fun τ => k none τ) → (fun s : Int32 × px_M => px_W C k 40 [some (.inr (.inr (some x0))), some (.inl x1), some (.inl x2), some (.inl x3), some (.inl s.1)] [] s.2) s := by
  intro s h0
  refine lpO_sound (P := (fun s : Int32 × px_M => px_W C k 40 [some (.inr (.inr (some x0))), some (.inl x1), some (.inl x2), some (.inl x3), some (.inl s.1)] [] s.2)) (fun s hs => ?_) h0
  obtain ⟨x4, σ⟩ := s
  refine px_runG (h - 1) ck_95 [(14, Sg_14 (f_14 (px_tb C))), (31, Sg_31 (f_31 (px_tb C)))] [(65, kp_95_65 (fun y0 y1 y2 y3 y4 τ => y0 = x0 ∧ y1 = x1 ∧ y2 = x2 ∧ y3 = x3 ∧ oW (f_95_65 (px_tb C) g95 τ y0 y1 y2 y3 y4) (Sum.elim (fun s : Int32 × px_M => px_W C k 40 [some (.inr (.inr (some x0))), some (.inl x1), some (.inl x2), some (.inl x3), some (.inl s.1)] [] s.2) (fun τ => k none τ)))), (89, kp_95_89 (fun y0 y1 y2 y3 y4 τ => y0 = x0 ∧ y1 = x1 ∧ y2 = x2 ∧ y3 = x3 ∧ oW (f_95_89 (px_tb C) g95 τ y0 y1 y2 y3 y4) (Sum.elim (fun s : Int32 × px_M => px_W C k 40 [some (.inr (.inr (some x0))), some (.inl x1), some (.inl x2), some (.inl x3), some (.inl s.1)] [] s.2) (fun τ => k none τ))))] 80 hC (px_sp1 (mf_14 hn (by omega)) (px_sp1 (mf_31 hn (by omega)) px_nosp)) (by omega) (px_cut1 (kq_95_65 (fun y0 y1 y2 y3 y4 τ hq => by obtain ⟨rfl, rfl, rfl, rfl, hq⟩ := hq; exact rl_95_65 hn (by omega) hC hg95  hq)) (px_cut1 (kq_95_89 (fun y0 y1 y2 y3 y4 τ hq => by obtain ⟨rfl, rfl, rfl, rfl, hq⟩ := hq; exact rl_95_89 hn (by omega) hC hg95  hq)) px_nocut)) (fun G Jf hG hJf => ?_)
  simp only [F_95_40, oW_some, oW_none, oW_bind, oW_map, oW_ite, oW_bn, oW_gd, oW_oA, Sum.elim_inl, Sum.elim_inr, oW_and, true_and, and_true, false_and, and_false, true_or, or_true, false_or, or_false, and_self, or_self, not_false_eq_true, not_true_eq_false, false_implies, forall_const, true_implies, eq_self, ↓reduceIte] at hs
  simp only [↓hG, ↓hJf, ↓px_vc, ↓px_ex, ↓px_jp, ↓px_gi, ↓px_gl, ↓px_gr, ↓px_s1, ↓px_s2, ↓px_nl, ↓px_i1, ↓px_l1, ↓px_r1_o, ↓px_q1, ↓px_i2, ↓px_l2, ↓px_il, ↓px_d0, ↓px_d1, ↓px_d2, ↓px_pop, px_sz, ↓px_sp, ↓px_rd, ↓px_rf, ↓pn_xf, ↓px_pt, ↓px_rok, ↓px_rv_o, ↓px_fill, ↓px_sl, ↓px_sw, ↓pn_SW, lc_lt, lc_ge, lc_gt, lc_le, lc_eq, ↓reduceIte, Nat.reduceEqDiff, Nat.reduceLeDiff, Nat.reduceAdd, Nat.reduceSub, reduceCtorEq, List.length_cons, List.length_nil, Option.toList_some, Option.toList_none, List.cons_append, List.nil_append, true_and, and_true, false_and, and_false, true_or, or_true, false_or, or_false, and_self, or_self, not_false_eq_true, not_true_eq_false, false_implies, forall_const, true_implies, eq_self, ↓kI_s, ↓kJ_s, ↓kN_s, ↓kO_s, ↓kZ_s, ↓kE_s, oW_and, ↓bk_95, ↓pn_i95, oW_some, oW_none, oW_bind, oW_map, oW_ite, oW_bn, oW_gd, oW_oA, Sum.elim_inl, Sum.elim_inr, ↓Sg_14, ↓Sg_31, ↓kp_95_65, ↓kp_95_89]
  exact hs
set_option maxHeartbeats 4000000 in
set_option maxRecDepth 100000 in
theorem rl_95_37 {C : px_C} (hn : px_nd (px_tb C)) {h : Nat} (hh : 2 ≤ h) (hC : px_ok C pn_i95 h) {g95 : px_M → Nat → Int32 → Int32 → Int32 → Option (px_M)} (hg95 : px_Ok (px_tb C) pn_i95 (h - 1) (Sg_95 g95)) {k : Option px_V → px_M → Prop} {x0 : Nat} {x1 : Int32} {x2 : Int32} {x3 : Int32} {σ : px_M} (hs : oW (f_95_37 (px_tb C) g95 σ x0 x1 x2 x3) (fun τ => k none τ)) : ∀ (z4 : Option px_V), px_W C k 37 [some (.inr (.inr (some x0))), some (.inl x1), some (.inl x2), some (.inl x3), z4] [] σ := by
  intro z4
  refine px_runG (h - 1) ck_95 [] [(40, kp_95_40 (fun y0 y1 y2 y3 y4 τ => oW (f_95_40 (px_tb C) g95 y0 y1 y2 y3 y4 τ) (fun τ => k none τ)))] 80 hC px_nosp (by omega) (px_cut1 (kq_95_40 (fun y0 y1 y2 y3 y4 τ hq => by exact rl_95_40 hn (by omega) hC hg95 (y4, τ) hq)) px_nocut) (fun G Jf hG hJf => ?_)
  simp only [f_95_37, oW_some, oW_none, oW_bind, oW_map, oW_ite, oW_bn, oW_gd, oW_oA, Sum.elim_inl, Sum.elim_inr, oW_and, true_and, and_true, false_and, and_false, true_or, or_true, false_or, or_false, and_self, or_self, not_false_eq_true, not_true_eq_false, false_implies, forall_const, true_implies, eq_self, ↓reduceIte] at hs
  simp only [↓hG, ↓hJf, ↓px_vc, ↓px_ex, ↓px_jp, ↓px_gi, ↓px_gl, ↓px_gr, ↓px_s1, ↓px_s2, ↓px_nl, ↓px_i1, ↓px_l1, ↓px_r1_o, ↓px_q1, ↓px_i2, ↓px_l2, ↓px_il, ↓px_d0, ↓px_d1, ↓px_d2, ↓px_pop, px_sz, ↓px_sp, ↓px_rd, ↓px_rf, ↓pn_xf, ↓px_pt, ↓px_rok, ↓px_rv_o, ↓px_fill, ↓px_sl, ↓px_sw, ↓pn_SW, lc_lt, lc_ge, lc_gt, lc_le, lc_eq, ↓reduceIte, Nat.reduceEqDiff, Nat.reduceLeDiff, Nat.reduceAdd, Nat.reduceSub, reduceCtorEq, List.length_cons, List.length_nil, Option.toList_some, Option.toList_none, List.cons_append, List.nil_append, true_and, and_true, false_and, and_false, true_or, or_true, false_or, or_false, and_self, or_self, not_false_eq_true, not_true_eq_false, false_implies, forall_const, true_implies, eq_self, ↓kI_s, ↓kJ_s, ↓kN_s, ↓kO_s, ↓kZ_s, ↓kE_s, oW_and, ↓bk_95, ↓pn_i95, oW_some, oW_none, oW_bind, oW_map, oW_ite, oW_bn, oW_gd, oW_oA, Sum.elim_inl, Sum.elim_inr, ↓kp_95_40]
  exact hs
set_option maxHeartbeats 4000000 in
set_option maxRecDepth 100000 in
theorem mF_95 {tab : px_T} (hn : px_nd tab) {h : Nat} (hh : 2 ≤ h) {g95 : px_M → Nat → Int32 → Int32 → Int32 → Option (px_M)} (hg95 : px_Ok tab pn_i95 (h - 1) (Sg_95 g95)) : px_Ok tab pn_i95 h (Sg_95 (F_95 tab g95)) := by
  refine px_mth hn (by decide +kernel) (fun av σ k hS => ?_) (fun C hT hC av σ k hS => ?_)
  · obtain ⟨x0, av0, e0, h0⟩ := px_r1_spec hS
    obtain ⟨x1, av1, e1, h1⟩ := px_i1_spec h0
    obtain ⟨x2, av2, e2, h2⟩ := px_i1_spec h1
    obtain ⟨x3, av3, e3, h3⟩ := px_i1_spec h2
    obtain ⟨ez, hz⟩ := h3
    subst ez
    subst e3
    subst e2
    subst e1
    subst e0
    exact Nat.le_of_ble_eq_true rfl
  · obtain ⟨x0, av0, e0, h0⟩ := px_r1_spec hS
    obtain ⟨x1, av1, e1, h1⟩ := px_i1_spec h0
    obtain ⟨x2, av2, e2, h2⟩ := px_i1_spec h1
    obtain ⟨x3, av3, e3, h3⟩ := px_i1_spec h2
    obtain ⟨ez, hz⟩ := h3
    subst ez
    subst e3
    subst e2
    subst e1
    subst e0
    subst hT
    refine px_runG (h - 1) ck_95 [(14, Sg_14 (f_14 (px_tb C))), (95, Sg_95 g95)] [(37, kp_95_37 (fun y0 y1 y2 y3 τ => oW (f_95_37 (px_tb C) g95 τ y0 y1 y2 y3) (fun τ => k none τ)))] 80 hC (px_sp1 (mf_14 hn (by omega)) (px_sp1 (hg95) px_nosp)) (by omega) (px_cut1 (kq_95_37 (fun y0 y1 y2 y3 τ hq => by exact rl_95_37 hn (by omega) hC hg95  hq)) px_nocut) (fun G Jf hG hJf => ?_)
    simp only [F_95, oW_some, oW_none, oW_bind, oW_map, oW_ite, oW_bn, oW_gd, oW_oA, Sum.elim_inl, Sum.elim_inr, oW_and, true_and, and_true, false_and, and_false, true_or, or_true, false_or, or_false, and_self, or_self, not_false_eq_true, not_true_eq_false, false_implies, forall_const, true_implies, eq_self, ↓reduceIte] at hz
    simp only [↓hG, ↓hJf, ↓px_vc, ↓px_ex, ↓px_jp, ↓px_gi, ↓px_gl, ↓px_gr, ↓px_s1, ↓px_s2, ↓px_nl, ↓px_i1, ↓px_l1, ↓px_r1_o, ↓px_q1, ↓px_i2, ↓px_l2, ↓px_il, ↓px_d0, ↓px_d1, ↓px_d2, ↓px_pop, px_sz, ↓px_sp, ↓px_rd, ↓px_rf, ↓pn_xf, ↓px_pt, ↓px_rok, ↓px_rv_o, ↓px_fill, ↓px_sl, ↓px_sw, ↓pn_SW, lc_lt, lc_ge, lc_gt, lc_le, lc_eq, ↓reduceIte, Nat.reduceEqDiff, Nat.reduceLeDiff, Nat.reduceAdd, Nat.reduceSub, reduceCtorEq, List.length_cons, List.length_nil, Option.toList_some, Option.toList_none, List.cons_append, List.nil_append, true_and, and_true, false_and, and_false, true_or, or_true, false_or, or_false, and_self, or_self, not_false_eq_true, not_true_eq_false, false_implies, forall_const, true_implies, eq_self, ↓kI_s, ↓kJ_s, ↓kN_s, ↓kO_s, ↓kZ_s, ↓kE_s, oW_and, ↓bk_95, ↓pn_i95, oW_some, oW_none, oW_bind, oW_map, oW_ite, oW_bn, oW_gd, oW_oA, Sum.elim_inl, Sum.elim_inr, ↓Sg_14, ↓Sg_95, ↓kp_95_37]
    exact hz
noncomputable def fr_95 (tab : px_T) : Nat → (px_M → Nat → Int32 → Int32 → Int32 → Option (px_M))
  | 0 => fun _ _ _ _ _ => none
  | d + 1 => F_95 tab ((fr_95 tab d))
noncomputable def f_95 (tab : px_T) (d : Nat) : px_M → Nat → Int32 → Int32 → Int32 → Option (px_M) := fr_95 tab d
theorem f_95_S (tab : px_T) (d : Nat) : f_95 tab (d + 1) = F_95 tab (f_95 tab d) := rfl
theorem mr_f95 {tab : px_T} (hn : px_nd tab) : ∀ (d h : Nat), 1 + d ≤ h → px_Ok tab pn_i95 h (Sg_95 (f_95 tab d)) := by
  intro d
  induction d with
  | zero =>
    intro h hh
    exact px_Ok_no (fun av σ k h0 => by obtain ⟨x0, av0, -, h1⟩ := px_r1_spec h0; obtain ⟨x1, av1, -, h2⟩ := px_i1_spec h1; obtain ⟨x2, av2, -, h3⟩ := px_i1_spec h2; obtain ⟨x3, av3, -, h4⟩ := px_i1_spec h3; exact h4.2.elim)
  | succ d ih =>
    intro h hh
    have h95 := ih (h - 1) (by omega)
    exact mF_95 hn (by omega) h95
theorem mf_95 {tab : px_T} (hn : px_nd tab) {h d : Nat} (hh : 1 + d ≤ h) : px_Ok tab pn_i95 h (Sg_95 (f_95 tab d)) := (mr_f95 hn d h hh)
