/-! shallow functions, printed by wip/whole/decomp.py -/
/-- NoThree.holds(II)I -/
noncomputable def f_12007 (tab : px_T) (σ : px_M) (x0 : Nat) (x1 : Int32) (x2 : Int32) : Option (Int32 × px_M) := if x1 < nI 0 then (some (((-2), σ))) else (gd (px_obj (px_lay tab x0) 12) ((((σ).2.2 x0 0)).bind fun n1 => gd (px_obj (px_lay tab n1) 1) ((((σ).2.2 n1 1)).bind fun n2 => gd (px_obj (px_lay tab n2) 10) (if ((σ).1 n2 0) ≤ x1 then (some (((-2), σ))) else (gd (px_obj (px_lay tab x0) 12) ((((σ).2.2 x0 0)).bind fun n3 => gd (px_obj (px_lay tab n3) 1) ((((σ).2.2 n3 0)).bind fun n4 => gd (px_obj (px_lay tab n4) 11) ((f_11002 tab σ n4 x2).bind fun r5 => bn (r5 = nI 0) (gd (px_obj (px_lay tab x0) 12) ((((σ).2.2 x0 0)).bind fun n6 => gd (px_obj (px_lay tab n6) 1) (gd (px_obj (px_lay tab x0) 12) ((((σ).2.2 n6 0)).bind fun n7 => (f_12059 tab σ x0 n7).bind fun q8 => gd (px_obj (px_lay tab x0) 12) ((((q8).2.2 x0 9)).bind fun n9 => gd (px_obj (px_lay tab n9) 2) ((f_2003 tab q8 n9 x1).bind fun q10 => if (q10.1 &&& ((nI 1) <<< (x2 &&& 31))) = nI 0 then (some (((nI 0), q10.2))) else (some (((nI 1), q10.2))))))))) (some (((-2), σ)))))))))))
def Sg_12007 (g : px_M → Nat → Int32 → Int32 → Option (Int32 × px_M)) : px_S := fun av σ k => px_r1 av (fun x0 av => px_i1 av (fun x1 av => px_i1 av (fun x2 av => av = [] ∧ oW (g σ x0 x1 x2) (fun q => k (some (.inl q.1)) q.2))))
set_option maxHeartbeats 4000000 in
set_option maxRecDepth 100000 in
theorem mf_12007 {tab : px_T} (hn : (tab.map Prod.fst).Nodup) {h : Nat} (hh : 31 ≤ h) : px_Ok tab pn_i12007 h (Sg_12007 (f_12007 tab)) := by
  refine px_mth hn (by decide +kernel) (fun av σ k hS => ?_) (fun C hT hC av σ k hS => ?_)
  · obtain ⟨x0, av0, e0, h0⟩ := px_r1_spec hS
    obtain ⟨x1, av1, e1, h1⟩ := px_i1_spec h0
    obtain ⟨x2, av2, e2, h2⟩ := px_i1_spec h1
    obtain ⟨ez, hz⟩ := h2
    subst ez
    subst e2
    subst e1
    subst e0
    exact Nat.le_of_ble_eq_true rfl
  · obtain ⟨x0, av0, e0, h0⟩ := px_r1_spec hS
    obtain ⟨x1, av1, e1, h1⟩ := px_i1_spec h0
    obtain ⟨x2, av2, e2, h2⟩ := px_i1_spec h1
    obtain ⟨ez, hz⟩ := h2
    subst ez
    subst e2
    subst e1
    subst e0
    subst hT
    refine px_runG (h - 1) ck_12007 [(2003, Sg_2003 (f_2003 (px_tb C))), (11002, Sg_11002 (f_11002 (px_tb C))), (12059, Sg_12059 (f_12059 (px_tb C)))] [] 80 hC (px_sp1 (mf_2003 hn (by omega)) (px_sp1 (mf_11002 hn (by omega)) (px_sp1 (mf_12059 hn (by omega)) px_nosp))) (by omega) px_nocut (fun G Jf hG hJf => ?_)
    simp only [f_12007, oW_some, oW_none, oW_bind, oW_map, oW_ite, oW_bn, oW_gd, oW_oA, Sum.elim_inl, Sum.elim_inr, oW_and, true_and, and_true, false_and, and_false, true_or, or_true, false_or, or_false, and_self, or_self, not_false_eq_true, not_true_eq_false, false_implies, forall_const, true_implies, eq_self, ↓reduceIte] at hz
    simp only [↓hG, ↓hJf, ↓px_vc, ↓px_ex, ↓px_jp, ↓px_gi, ↓px_gl, ↓px_gr, ↓px_s1, ↓px_s2, ↓px_nl, ↓px_i1, ↓px_l1, ↓px_r1_o, ↓px_q1, ↓px_i2, ↓px_l2, ↓px_il, ↓px_d0, ↓px_d1, ↓px_d2, ↓px_pop, px_sz, ↓px_sp, ↓px_rd, ↓px_pt, ↓px_rok, ↓px_rv_o, ↓px_fill, ↓px_sl, ↓px_sw, ↓pn_SW, lc_lt, lc_ge, lc_gt, lc_le, lc_eq, ↓reduceIte, Nat.reduceEqDiff, Nat.reduceLeDiff, Nat.reduceAdd, Nat.reduceSub, reduceCtorEq, List.length_cons, List.length_nil, Option.toList_some, Option.toList_none, List.cons_append, List.nil_append, true_and, and_true, false_and, and_false, true_or, or_true, false_or, or_false, and_self, or_self, not_false_eq_true, not_true_eq_false, false_implies, forall_const, true_implies, eq_self, ↓kI_s, ↓kJ_s, ↓kN_s, ↓kO_s, ↓kZ_s, ↓kE_s, oW_and, ↓bk_12007, ↓pn_i12007, oW_some, oW_none, oW_bind, oW_map, oW_ite, oW_bn, oW_gd, oW_oA, Sum.elim_inl, Sum.elim_inr, ↓Sg_2003, ↓Sg_11002, ↓Sg_12059]
    exact hz
/-- NoThree.broken(I)I -/
noncomputable def F_12008_41 (tab : px_T) (x0 : Nat) (x1 : Int32) (x2 : Int32) (x3 : Int32) (σ : px_M) : Option ((Int32 × px_M) ⊕ ((Int32 × px_M) ⊕ (Int32 × px_M))) := gd (px_obj (px_lay tab x0) 12) ((((σ).2.2 x0 0)).bind fun n1 => gd (px_obj (px_lay tab n1) 1) ((((σ).2.2 n1 1)).bind fun n2 => gd (px_obj (px_lay tab n2) 10) (if ((σ).1 n2 0) ≤ x3 then (some (.inr (.inl (((x2 + (nI 1)), σ))))) else (gd (px_obj (px_lay tab x0) 12) ((((σ).2.2 x0 9)).bind fun n3 => gd (px_obj (px_lay tab n3) 2) ((f_2003 tab σ n3 x3).bind fun q4 => bn ((q4.1 &&& ((nI 1) <<< (x2 &&& 31))) = nI 0) (some (.inl (((x3 + (nI 1)), q4.2)))) (bn (x1 = nI 0) (some (.inr (.inr ((x3, q4.2))))) (some (.inr (.inr ((x2, q4.2))))))))))))
noncomputable def f_12008_41 (tab : px_T) (x0 : Nat) (x1 : Int32) (x2 : Int32) (x3 : Int32) (σ : px_M) : Option ((Int32 × px_M) ⊕ (Int32 × px_M)) := lpO (fun s : Int32 × px_M => F_12008_41 tab x0 x1 x2 s.1 s.2) (x3, σ)
theorem f_12008_41_eq (tab : px_T) (x0 : Nat) (x1 : Int32) (x2 : Int32) (x3 : Int32) (σ : px_M) : f_12008_41 tab x0 x1 x2 x3 σ = (F_12008_41 tab x0 x1 x2 x3 σ).bind (Sum.elim (fun s => f_12008_41 tab x0 x1 x2 s.1 s.2) some) := lpO_eq _ _
noncomputable def F_12008_25 (tab : px_T) (x0 : Nat) (x1 : Int32) (x2 : Int32) (σ : px_M) : Option ((Int32 × px_M) ⊕ (Int32 × px_M)) := gd (px_obj (px_lay tab x0) 12) ((((σ).2.2 x0 0)).bind fun n1 => gd (px_obj (px_lay tab n1) 1) ((((σ).2.2 n1 0)).bind fun n2 => gd (px_obj (px_lay tab n2) 11) (if ((σ).1 n2 0) ≤ x2 then (some (.inr (((-1), σ)))) else (f_12008_41 tab x0 x1 x2 ((nI 0)) σ))))
noncomputable def f_12008_25 (tab : px_T) (x0 : Nat) (x1 : Int32) (x2 : Int32) (σ : px_M) : Option (Int32 × px_M) := lpO (fun s : Int32 × px_M => F_12008_25 tab x0 x1 s.1 s.2) (x2, σ)
theorem f_12008_25_eq (tab : px_T) (x0 : Nat) (x1 : Int32) (x2 : Int32) (σ : px_M) : f_12008_25 tab x0 x1 x2 σ = (F_12008_25 tab x0 x1 x2 σ).bind (Sum.elim (fun s => f_12008_25 tab x0 x1 s.1 s.2) some) := lpO_eq _ _
noncomputable def f_12008 (tab : px_T) (σ : px_M) (x0 : Nat) (x1 : Int32) : Option (Int32 × px_M) := if x1 < nI 0 then (some (((-2), σ))) else (if x1 ≤ (nI 1) then (gd (px_obj (px_lay tab x0) 12) ((((σ).2.2 x0 0)).bind fun n1 => gd (px_obj (px_lay tab n1) 1) (gd (px_obj (px_lay tab x0) 12) ((((σ).2.2 n1 0)).bind fun n2 => (f_12059 tab σ x0 n2).bind fun q3 => f_12008_25 tab x0 x1 ((nI 0)) q3)))) else (some (((-2), σ))))
def Sg_12008 (g : px_M → Nat → Int32 → Option (Int32 × px_M)) : px_S := fun av σ k => px_r1 av (fun x0 av => px_i1 av (fun x1 av => av = [] ∧ oW (g σ x0 x1) (fun q => k (some (.inl q.1)) q.2)))
def kp_12008_41 (Q : Nat → Int32 → Int32 → Int32 → px_M → Prop) : px_P := fun ls st τ => st = [] ∧ kN ls (fun x0 ls => kI ls (fun x1 ls => kI ls (fun x2 ls => kI ls (fun x3 ls => kE ls (Q x0 x1 x2 x3 τ)))))
theorem kq_12008_41 {C : px_C} {k : Option px_V → px_M → Prop} {Q : Nat → Int32 → Int32 → Int32 → px_M → Prop} (H : ∀ (x0 : Nat) (x1 : Int32) (x2 : Int32) (x3 : Int32) (τ : px_M), Q x0 x1 x2 x3 τ → px_W C k 41 [some (.inr (.inr (some x0))), some (.inl x1), some (.inl x2), some (.inl x3)] [] τ) : ∀ ls st τ, kp_12008_41 Q ls st τ → px_W C k 41 ls st τ := by
  intro ls st τ hz
  obtain ⟨ez, h0⟩ := hz
  obtain ⟨x0, l0, e0, h1⟩ := kN_sp h0
  obtain ⟨x1, l1, e1, h2⟩ := kI_sp h1
  obtain ⟨x2, l2, e2, h3⟩ := kI_sp h2
  obtain ⟨x3, l3, e3, h4⟩ := kI_sp h3
  obtain ⟨ey, hy⟩ := kE_sp h4
  subst ez
  subst ey
  subst e3
  subst e2
  subst e1
  subst e0
  exact H x0 x1 x2 x3 τ hy
def kp_12008_25 (Q : Nat → Int32 → Int32 → px_M → Prop) : px_P := fun ls st τ => st = [] ∧ kN ls (fun x0 ls => kI ls (fun x1 ls => kI ls (fun x2 ls => kZ ls (fun ls => kE ls (Q x0 x1 x2 τ)))))
theorem kq_12008_25 {C : px_C} {k : Option px_V → px_M → Prop} {Q : Nat → Int32 → Int32 → px_M → Prop} (H : ∀ (x0 : Nat) (x1 : Int32) (x2 : Int32) (τ : px_M), Q x0 x1 x2 τ → ∀ (z3 : Option px_V), px_W C k 25 [some (.inr (.inr (some x0))), some (.inl x1), some (.inl x2), z3] [] τ) : ∀ ls st τ, kp_12008_25 Q ls st τ → px_W C k 25 ls st τ := by
  intro ls st τ hz
  obtain ⟨ez, h0⟩ := hz
  obtain ⟨x0, l0, e0, h1⟩ := kN_sp h0
  obtain ⟨x1, l1, e1, h2⟩ := kI_sp h1
  obtain ⟨x2, l2, e2, h3⟩ := kI_sp h2
  obtain ⟨z3, l3, e3, h4⟩ := kZ_sp h3
  obtain ⟨ey, hy⟩ := kE_sp h4
  subst ez
  subst ey
  subst e3
  subst e2
  subst e1
  subst e0
  exact H x0 x1 x2 τ hy z3
set_option maxHeartbeats 4000000 in
set_option maxRecDepth 100000 in
theorem rl_12008_41 {C : px_C} (hn : ((px_tb C).map Prod.fst).Nodup) {h : Nat} (hh : 31 ≤ h) (hC : px_ok C pn_i12008 h) {k : Option px_V → px_M → Prop} {x0 : Nat} {x1 : Int32} {x2 : Int32} : ∀ s : Int32 × px_M, oW (f_12008_41 (px_tb C) x0 x1 x2 s.1 s.2) (Sum.elim (fun s : Int32 × px_M => ∀ (z3 : Option px_V), px_W C k 25 [some (.inr (.inr (some x0))), some (.inl x1), some (.inl s.1), z3] [] s.2) (fun q => k (some (.inl q.1)) q.2)) → (fun s : Int32 × px_M => px_W C k 41 [some (.inr (.inr (some x0))), some (.inl x1), some (.inl x2), some (.inl s.1)] [] s.2) s := by
  intro s h0
  refine lpO_sound (P := (fun s : Int32 × px_M => px_W C k 41 [some (.inr (.inr (some x0))), some (.inl x1), some (.inl x2), some (.inl s.1)] [] s.2)) (fun s hs => ?_) h0
  obtain ⟨x3, σ⟩ := s
  refine px_runG (h - 1) ck_12008 [(2003, Sg_2003 (f_2003 (px_tb C)))] [(25, kp_12008_25 (fun y0 y1 y2 τ => y0 = x0 ∧ y1 = x1 ∧ (fun s : Int32 × px_M => ∀ (z3 : Option px_V), px_W C k 25 [some (.inr (.inr (some x0))), some (.inl x1), some (.inl s.1), z3] [] s.2) (y2, τ))), (41, kp_12008_41 (fun y0 y1 y2 y3 τ => y0 = x0 ∧ y1 = x1 ∧ y2 = x2 ∧ (fun s : Int32 × px_M => px_W C k 41 [some (.inr (.inr (some x0))), some (.inl x1), some (.inl x2), some (.inl s.1)] [] s.2) (y3, τ)))] 80 hC (px_sp1 (mf_2003 hn (by omega)) px_nosp) (by omega) (px_cut1 (kq_12008_25 (fun y0 y1 y2 τ hq => by obtain ⟨rfl, rfl, hq⟩ := hq; exact hq)) (px_cut1 (kq_12008_41 (fun y0 y1 y2 y3 τ hq => by obtain ⟨rfl, rfl, rfl, hq⟩ := hq; exact hq)) px_nocut)) (fun G Jf hG hJf => ?_)
  simp only [F_12008_41, oW_some, oW_none, oW_bind, oW_map, oW_ite, oW_bn, oW_gd, oW_oA, Sum.elim_inl, Sum.elim_inr, oW_and, true_and, and_true, false_and, and_false, true_or, or_true, false_or, or_false, and_self, or_self, not_false_eq_true, not_true_eq_false, false_implies, forall_const, true_implies, eq_self, ↓reduceIte] at hs
  simp only [↓hG, ↓hJf, ↓px_vc, ↓px_ex, ↓px_jp, ↓px_gi, ↓px_gl, ↓px_gr, ↓px_s1, ↓px_s2, ↓px_nl, ↓px_i1, ↓px_l1, ↓px_r1_o, ↓px_q1, ↓px_i2, ↓px_l2, ↓px_il, ↓px_d0, ↓px_d1, ↓px_d2, ↓px_pop, px_sz, ↓px_sp, ↓px_rd, ↓px_pt, ↓px_rok, ↓px_rv_o, ↓px_fill, ↓px_sl, ↓px_sw, ↓pn_SW, lc_lt, lc_ge, lc_gt, lc_le, lc_eq, ↓reduceIte, Nat.reduceEqDiff, Nat.reduceLeDiff, Nat.reduceAdd, Nat.reduceSub, reduceCtorEq, List.length_cons, List.length_nil, Option.toList_some, Option.toList_none, List.cons_append, List.nil_append, true_and, and_true, false_and, and_false, true_or, or_true, false_or, or_false, and_self, or_self, not_false_eq_true, not_true_eq_false, false_implies, forall_const, true_implies, eq_self, ↓kI_s, ↓kJ_s, ↓kN_s, ↓kO_s, ↓kZ_s, ↓kE_s, oW_and, ↓bk_12008, ↓pn_i12008, oW_some, oW_none, oW_bind, oW_map, oW_ite, oW_bn, oW_gd, oW_oA, Sum.elim_inl, Sum.elim_inr, ↓Sg_2003, ↓kp_12008_25, ↓kp_12008_41]
  exact hs
set_option maxHeartbeats 4000000 in
set_option maxRecDepth 100000 in
theorem rl_12008_25 {C : px_C} (hn : ((px_tb C).map Prod.fst).Nodup) {h : Nat} (hh : 31 ≤ h) (hC : px_ok C pn_i12008 h) {k : Option px_V → px_M → Prop} {x0 : Nat} {x1 : Int32} : ∀ s : Int32 × px_M, oW (f_12008_25 (px_tb C) x0 x1 s.1 s.2) (fun q => k (some (.inl q.1)) q.2) → (fun s : Int32 × px_M => ∀ (z3 : Option px_V), px_W C k 25 [some (.inr (.inr (some x0))), some (.inl x1), some (.inl s.1), z3] [] s.2) s := by
  intro s h0
  refine lpO_sound (P := (fun s : Int32 × px_M => ∀ (z3 : Option px_V), px_W C k 25 [some (.inr (.inr (some x0))), some (.inl x1), some (.inl s.1), z3] [] s.2)) (fun s hs => ?_) h0
  obtain ⟨x2, σ⟩ := s
  intro z3
  refine px_runG (h - 1) ck_12008 [] [(41, kp_12008_41 (fun y0 y1 y2 y3 τ => y0 = x0 ∧ y1 = x1 ∧ oW (f_12008_41 (px_tb C) y0 y1 y2 y3 τ) (Sum.elim (fun s : Int32 × px_M => ∀ (z3 : Option px_V), px_W C k 25 [some (.inr (.inr (some x0))), some (.inl x1), some (.inl s.1), z3] [] s.2) (fun q => k (some (.inl q.1)) q.2))))] 80 hC px_nosp (by omega) (px_cut1 (kq_12008_41 (fun y0 y1 y2 y3 τ hq => by obtain ⟨rfl, rfl, hq⟩ := hq; exact rl_12008_41 hn (by omega) hC (y3, τ) hq)) px_nocut) (fun G Jf hG hJf => ?_)
  simp only [F_12008_25, oW_some, oW_none, oW_bind, oW_map, oW_ite, oW_bn, oW_gd, oW_oA, Sum.elim_inl, Sum.elim_inr, oW_and, true_and, and_true, false_and, and_false, true_or, or_true, false_or, or_false, and_self, or_self, not_false_eq_true, not_true_eq_false, false_implies, forall_const, true_implies, eq_self, ↓reduceIte] at hs
  simp only [↓hG, ↓hJf, ↓px_vc, ↓px_ex, ↓px_jp, ↓px_gi, ↓px_gl, ↓px_gr, ↓px_s1, ↓px_s2, ↓px_nl, ↓px_i1, ↓px_l1, ↓px_r1_o, ↓px_q1, ↓px_i2, ↓px_l2, ↓px_il, ↓px_d0, ↓px_d1, ↓px_d2, ↓px_pop, px_sz, ↓px_sp, ↓px_rd, ↓px_pt, ↓px_rok, ↓px_rv_o, ↓px_fill, ↓px_sl, ↓px_sw, ↓pn_SW, lc_lt, lc_ge, lc_gt, lc_le, lc_eq, ↓reduceIte, Nat.reduceEqDiff, Nat.reduceLeDiff, Nat.reduceAdd, Nat.reduceSub, reduceCtorEq, List.length_cons, List.length_nil, Option.toList_some, Option.toList_none, List.cons_append, List.nil_append, true_and, and_true, false_and, and_false, true_or, or_true, false_or, or_false, and_self, or_self, not_false_eq_true, not_true_eq_false, false_implies, forall_const, true_implies, eq_self, ↓kI_s, ↓kJ_s, ↓kN_s, ↓kO_s, ↓kZ_s, ↓kE_s, oW_and, ↓bk_12008, ↓pn_i12008, oW_some, oW_none, oW_bind, oW_map, oW_ite, oW_bn, oW_gd, oW_oA, Sum.elim_inl, Sum.elim_inr, ↓kp_12008_41]
  exact hs
set_option maxHeartbeats 4000000 in
set_option maxRecDepth 100000 in
theorem mf_12008 {tab : px_T} (hn : (tab.map Prod.fst).Nodup) {h : Nat} (hh : 31 ≤ h) : px_Ok tab pn_i12008 h (Sg_12008 (f_12008 tab)) := by
  refine px_mth hn (by decide +kernel) (fun av σ k hS => ?_) (fun C hT hC av σ k hS => ?_)
  · obtain ⟨x0, av0, e0, h0⟩ := px_r1_spec hS
    obtain ⟨x1, av1, e1, h1⟩ := px_i1_spec h0
    obtain ⟨ez, hz⟩ := h1
    subst ez
    subst e1
    subst e0
    exact Nat.le_of_ble_eq_true rfl
  · obtain ⟨x0, av0, e0, h0⟩ := px_r1_spec hS
    obtain ⟨x1, av1, e1, h1⟩ := px_i1_spec h0
    obtain ⟨ez, hz⟩ := h1
    subst ez
    subst e1
    subst e0
    subst hT
    refine px_runG (h - 1) ck_12008 [(12059, Sg_12059 (f_12059 (px_tb C)))] [(25, kp_12008_25 (fun y0 y1 y2 τ => oW (f_12008_25 (px_tb C) y0 y1 y2 τ) (fun q => k (some (.inl q.1)) q.2)))] 80 hC (px_sp1 (mf_12059 hn (by omega)) px_nosp) (by omega) (px_cut1 (kq_12008_25 (fun y0 y1 y2 τ hq => by exact rl_12008_25 hn (by omega) hC (y2, τ) hq)) px_nocut) (fun G Jf hG hJf => ?_)
    simp only [f_12008, oW_some, oW_none, oW_bind, oW_map, oW_ite, oW_bn, oW_gd, oW_oA, Sum.elim_inl, Sum.elim_inr, oW_and, true_and, and_true, false_and, and_false, true_or, or_true, false_or, or_false, and_self, or_self, not_false_eq_true, not_true_eq_false, false_implies, forall_const, true_implies, eq_self, ↓reduceIte] at hz
    simp only [↓hG, ↓hJf, ↓px_vc, ↓px_ex, ↓px_jp, ↓px_gi, ↓px_gl, ↓px_gr, ↓px_s1, ↓px_s2, ↓px_nl, ↓px_i1, ↓px_l1, ↓px_r1_o, ↓px_q1, ↓px_i2, ↓px_l2, ↓px_il, ↓px_d0, ↓px_d1, ↓px_d2, ↓px_pop, px_sz, ↓px_sp, ↓px_rd, ↓px_pt, ↓px_rok, ↓px_rv_o, ↓px_fill, ↓px_sl, ↓px_sw, ↓pn_SW, lc_lt, lc_ge, lc_gt, lc_le, lc_eq, ↓reduceIte, Nat.reduceEqDiff, Nat.reduceLeDiff, Nat.reduceAdd, Nat.reduceSub, reduceCtorEq, List.length_cons, List.length_nil, Option.toList_some, Option.toList_none, List.cons_append, List.nil_append, true_and, and_true, false_and, and_false, true_or, or_true, false_or, or_false, and_self, or_self, not_false_eq_true, not_true_eq_false, false_implies, forall_const, true_implies, eq_self, ↓kI_s, ↓kJ_s, ↓kN_s, ↓kO_s, ↓kZ_s, ↓kE_s, oW_and, ↓bk_12008, ↓pn_i12008, oW_some, oW_none, oW_bind, oW_map, oW_ite, oW_bn, oW_gd, oW_oA, Sum.elim_inl, Sum.elim_inr, ↓Sg_12059, ↓kp_12008_25]
    exact hz
/-- NoThree.breaches()I -/
noncomputable def F_12009_15 (tab : px_T) (x0 : Nat) (x1 : Int32) (x2 : Int32) (σ : px_M) : Option ((Int32 × Int32 × px_M) ⊕ (Int32 × px_M)) := gd (px_obj (px_lay tab x0) 12) ((((σ).2.2 x0 0)).bind fun n1 => gd (px_obj (px_lay tab n1) 1) ((((σ).2.2 n1 1)).bind fun n2 => gd (px_obj (px_lay tab n2) 10) (if ((σ).1 n2 0) ≤ x2 then (some (.inr ((x1, σ)))) else (gd (px_obj (px_lay tab x0) 12) ((((σ).2.2 x0 0)).bind fun n3 => gd (px_obj (px_lay tab n3) 1) ((((σ).2.2 n3 0)).bind fun n4 => gd (px_obj (px_lay tab n4) 11) (gd (px_obj (px_lay tab x0) 12) ((((σ).2.2 x0 9)).bind fun n5 => gd (px_obj (px_lay tab n5) 2) ((f_2003 tab σ n5 x2).bind fun q6 => (f_21000 tab q6.2 q6.1).bind fun r7 => some (.inl (((x1 + (((σ).1 n4 0) - r7)), (x2 + (nI 1)), q6.2))))))))))))
noncomputable def f_12009_15 (tab : px_T) (x0 : Nat) (x1 : Int32) (x2 : Int32) (σ : px_M) : Option (Int32 × px_M) := lpO (fun s : Int32 × Int32 × px_M => F_12009_15 tab x0 s.1 s.2.1 s.2.2) (x1, x2, σ)
theorem f_12009_15_eq (tab : px_T) (x0 : Nat) (x1 : Int32) (x2 : Int32) (σ : px_M) : f_12009_15 tab x0 x1 x2 σ = (F_12009_15 tab x0 x1 x2 σ).bind (Sum.elim (fun s => f_12009_15 tab x0 s.1 s.2.1 s.2.2) some) := lpO_eq _ _
noncomputable def f_12009 (tab : px_T) (σ : px_M) (x0 : Nat) : Option (Int32 × px_M) := gd (px_obj (px_lay tab x0) 12) ((((σ).2.2 x0 0)).bind fun n1 => gd (px_obj (px_lay tab n1) 1) (gd (px_obj (px_lay tab x0) 12) ((((σ).2.2 n1 0)).bind fun n2 => (f_12059 tab σ x0 n2).bind fun q3 => f_12009_15 tab x0 ((nI 0)) ((nI 0)) q3)))
def Sg_12009 (g : px_M → Nat → Option (Int32 × px_M)) : px_S := fun av σ k => px_r1 av (fun x0 av => av = [] ∧ oW (g σ x0) (fun q => k (some (.inl q.1)) q.2))
def kp_12009_15 (Q : Nat → Int32 → Int32 → px_M → Prop) : px_P := fun ls st τ => st = [] ∧ kN ls (fun x0 ls => kI ls (fun x1 ls => kI ls (fun x2 ls => kE ls (Q x0 x1 x2 τ))))
theorem kq_12009_15 {C : px_C} {k : Option px_V → px_M → Prop} {Q : Nat → Int32 → Int32 → px_M → Prop} (H : ∀ (x0 : Nat) (x1 : Int32) (x2 : Int32) (τ : px_M), Q x0 x1 x2 τ → px_W C k 15 [some (.inr (.inr (some x0))), some (.inl x1), some (.inl x2)] [] τ) : ∀ ls st τ, kp_12009_15 Q ls st τ → px_W C k 15 ls st τ := by
  intro ls st τ hz
  obtain ⟨ez, h0⟩ := hz
  obtain ⟨x0, l0, e0, h1⟩ := kN_sp h0
  obtain ⟨x1, l1, e1, h2⟩ := kI_sp h1
  obtain ⟨x2, l2, e2, h3⟩ := kI_sp h2
  obtain ⟨ey, hy⟩ := kE_sp h3
  subst ez
  subst ey
  subst e2
  subst e1
  subst e0
  exact H x0 x1 x2 τ hy
set_option maxHeartbeats 4000000 in
set_option maxRecDepth 100000 in
theorem rl_12009_15 {C : px_C} (hn : ((px_tb C).map Prod.fst).Nodup) {h : Nat} (hh : 31 ≤ h) (hC : px_ok C pn_i12009 h) {k : Option px_V → px_M → Prop} {x0 : Nat} : ∀ s : Int32 × Int32 × px_M, oW (f_12009_15 (px_tb C) x0 s.1 s.2.1 s.2.2) (fun q => k (some (.inl q.1)) q.2) → (fun s : Int32 × Int32 × px_M => px_W C k 15 [some (.inr (.inr (some x0))), some (.inl s.1), some (.inl s.2.1)] [] s.2.2) s := by
  intro s h0
  refine lpO_sound (P := (fun s : Int32 × Int32 × px_M => px_W C k 15 [some (.inr (.inr (some x0))), some (.inl s.1), some (.inl s.2.1)] [] s.2.2)) (fun s hs => ?_) h0
  obtain ⟨x1, x2, σ⟩ := s
  refine px_runG (h - 1) ck_12009 [(2003, Sg_2003 (f_2003 (px_tb C))), (21000, Sg_21000 (f_21000 (px_tb C)))] [(15, kp_12009_15 (fun y0 y1 y2 τ => y0 = x0 ∧ (fun s : Int32 × Int32 × px_M => px_W C k 15 [some (.inr (.inr (some x0))), some (.inl s.1), some (.inl s.2.1)] [] s.2.2) (y1, y2, τ)))] 80 hC (px_sp1 (mf_2003 hn (by omega)) (px_sp1 (mf_21000 hn (by omega)) px_nosp)) (by omega) (px_cut1 (kq_12009_15 (fun y0 y1 y2 τ hq => by obtain ⟨rfl, hq⟩ := hq; exact hq)) px_nocut) (fun G Jf hG hJf => ?_)
  simp only [F_12009_15, oW_some, oW_none, oW_bind, oW_map, oW_ite, oW_bn, oW_gd, oW_oA, Sum.elim_inl, Sum.elim_inr, oW_and, true_and, and_true, false_and, and_false, true_or, or_true, false_or, or_false, and_self, or_self, not_false_eq_true, not_true_eq_false, false_implies, forall_const, true_implies, eq_self, ↓reduceIte] at hs
  simp only [↓hG, ↓hJf, ↓px_vc, ↓px_ex, ↓px_jp, ↓px_gi, ↓px_gl, ↓px_gr, ↓px_s1, ↓px_s2, ↓px_nl, ↓px_i1, ↓px_l1, ↓px_r1_o, ↓px_q1, ↓px_i2, ↓px_l2, ↓px_il, ↓px_d0, ↓px_d1, ↓px_d2, ↓px_pop, px_sz, ↓px_sp, ↓px_rd, ↓px_pt, ↓px_rok, ↓px_rv_o, ↓px_fill, ↓px_sl, ↓px_sw, ↓pn_SW, lc_lt, lc_ge, lc_gt, lc_le, lc_eq, ↓reduceIte, Nat.reduceEqDiff, Nat.reduceLeDiff, Nat.reduceAdd, Nat.reduceSub, reduceCtorEq, List.length_cons, List.length_nil, Option.toList_some, Option.toList_none, List.cons_append, List.nil_append, true_and, and_true, false_and, and_false, true_or, or_true, false_or, or_false, and_self, or_self, not_false_eq_true, not_true_eq_false, false_implies, forall_const, true_implies, eq_self, ↓kI_s, ↓kJ_s, ↓kN_s, ↓kO_s, ↓kZ_s, ↓kE_s, oW_and, ↓bk_12009, ↓pn_i12009, oW_some, oW_none, oW_bind, oW_map, oW_ite, oW_bn, oW_gd, oW_oA, Sum.elim_inl, Sum.elim_inr, ↓Sg_2003, ↓Sg_21000, ↓kp_12009_15]
  exact hs
set_option maxHeartbeats 4000000 in
set_option maxRecDepth 100000 in
theorem mf_12009 {tab : px_T} (hn : (tab.map Prod.fst).Nodup) {h : Nat} (hh : 31 ≤ h) : px_Ok tab pn_i12009 h (Sg_12009 (f_12009 tab)) := by
  refine px_mth hn (by decide +kernel) (fun av σ k hS => ?_) (fun C hT hC av σ k hS => ?_)
  · obtain ⟨x0, av0, e0, h0⟩ := px_r1_spec hS
    obtain ⟨ez, hz⟩ := h0
    subst ez
    subst e0
    exact Nat.le_of_ble_eq_true rfl
  · obtain ⟨x0, av0, e0, h0⟩ := px_r1_spec hS
    obtain ⟨ez, hz⟩ := h0
    subst ez
    subst e0
    subst hT
    refine px_runG (h - 1) ck_12009 [(12059, Sg_12059 (f_12059 (px_tb C)))] [(15, kp_12009_15 (fun y0 y1 y2 τ => oW (f_12009_15 (px_tb C) y0 y1 y2 τ) (fun q => k (some (.inl q.1)) q.2)))] 80 hC (px_sp1 (mf_12059 hn (by omega)) px_nosp) (by omega) (px_cut1 (kq_12009_15 (fun y0 y1 y2 τ hq => by exact rl_12009_15 hn (by omega) hC (y1, y2, τ) hq)) px_nocut) (fun G Jf hG hJf => ?_)
    simp only [f_12009, oW_some, oW_none, oW_bind, oW_map, oW_ite, oW_bn, oW_gd, oW_oA, Sum.elim_inl, Sum.elim_inr, oW_and, true_and, and_true, false_and, and_false, true_or, or_true, false_or, or_false, and_self, or_self, not_false_eq_true, not_true_eq_false, false_implies, forall_const, true_implies, eq_self, ↓reduceIte] at hz
    simp only [↓hG, ↓hJf, ↓px_vc, ↓px_ex, ↓px_jp, ↓px_gi, ↓px_gl, ↓px_gr, ↓px_s1, ↓px_s2, ↓px_nl, ↓px_i1, ↓px_l1, ↓px_r1_o, ↓px_q1, ↓px_i2, ↓px_l2, ↓px_il, ↓px_d0, ↓px_d1, ↓px_d2, ↓px_pop, px_sz, ↓px_sp, ↓px_rd, ↓px_pt, ↓px_rok, ↓px_rv_o, ↓px_fill, ↓px_sl, ↓px_sw, ↓pn_SW, lc_lt, lc_ge, lc_gt, lc_le, lc_eq, ↓reduceIte, Nat.reduceEqDiff, Nat.reduceLeDiff, Nat.reduceAdd, Nat.reduceSub, reduceCtorEq, List.length_cons, List.length_nil, Option.toList_some, Option.toList_none, List.cons_append, List.nil_append, true_and, and_true, false_and, and_false, true_or, or_true, false_or, or_false, and_self, or_self, not_false_eq_true, not_true_eq_false, false_implies, forall_const, true_implies, eq_self, ↓kI_s, ↓kJ_s, ↓kN_s, ↓kO_s, ↓kZ_s, ↓kE_s, oW_and, ↓bk_12009, ↓pn_i12009, oW_some, oW_none, oW_bind, oW_map, oW_ite, oW_bn, oW_gd, oW_oA, Sum.elim_inl, Sum.elim_inr, ↓Sg_12059, ↓kp_12009_15]
    exact hz
/-- NoThree.why(II)I -/
noncomputable def f_12010 (tab : px_T) (σ : px_M) (x0 : Nat) (x1 : Int32) (x2 : Int32) : Option (Int32 × px_M) := gd (px_obj (px_lay tab x0) 12) ((((σ).2.2 x0 0)).bind fun n1 => gd (px_obj (px_lay tab n1) 1) (gd (px_obj (px_lay tab x0) 12) ((((σ).2.2 n1 0)).bind fun n2 => (f_12059 tab σ x0 n2).bind fun q3 => gd (px_obj (px_lay tab x0) 12) ((((q3).2.2 x0 9)).bind fun n4 => gd (px_obj (px_lay tab n4) 2) ((f_2005 tab q3 n4 x1 x2).bind fun q5 => some ((q5.1, q5.2)))))))
def Sg_12010 (g : px_M → Nat → Int32 → Int32 → Option (Int32 × px_M)) : px_S := fun av σ k => px_r1 av (fun x0 av => px_i1 av (fun x1 av => px_i1 av (fun x2 av => av = [] ∧ oW (g σ x0 x1 x2) (fun q => k (some (.inl q.1)) q.2))))
set_option maxHeartbeats 4000000 in
set_option maxRecDepth 100000 in
theorem mf_12010 {tab : px_T} (hn : (tab.map Prod.fst).Nodup) {h : Nat} (hh : 31 ≤ h) : px_Ok tab pn_i12010 h (Sg_12010 (f_12010 tab)) := by
  refine px_mth hn (by decide +kernel) (fun av σ k hS => ?_) (fun C hT hC av σ k hS => ?_)
  · obtain ⟨x0, av0, e0, h0⟩ := px_r1_spec hS
    obtain ⟨x1, av1, e1, h1⟩ := px_i1_spec h0
    obtain ⟨x2, av2, e2, h2⟩ := px_i1_spec h1
    obtain ⟨ez, hz⟩ := h2
    subst ez
    subst e2
    subst e1
    subst e0
    exact Nat.le_of_ble_eq_true rfl
  · obtain ⟨x0, av0, e0, h0⟩ := px_r1_spec hS
    obtain ⟨x1, av1, e1, h1⟩ := px_i1_spec h0
    obtain ⟨x2, av2, e2, h2⟩ := px_i1_spec h1
    obtain ⟨ez, hz⟩ := h2
    subst ez
    subst e2
    subst e1
    subst e0
    subst hT
    refine px_runG (h - 1) ck_12010 [(2005, Sg_2005 (f_2005 (px_tb C))), (12059, Sg_12059 (f_12059 (px_tb C)))] [] 80 hC (px_sp1 (mf_2005 hn (by omega)) (px_sp1 (mf_12059 hn (by omega)) px_nosp)) (by omega) px_nocut (fun G Jf hG hJf => ?_)
    simp only [f_12010, oW_some, oW_none, oW_bind, oW_map, oW_ite, oW_bn, oW_gd, oW_oA, Sum.elim_inl, Sum.elim_inr, oW_and, true_and, and_true, false_and, and_false, true_or, or_true, false_or, or_false, and_self, or_self, not_false_eq_true, not_true_eq_false, false_implies, forall_const, true_implies, eq_self, ↓reduceIte] at hz
    simp only [↓hG, ↓hJf, ↓px_vc, ↓px_ex, ↓px_jp, ↓px_gi, ↓px_gl, ↓px_gr, ↓px_s1, ↓px_s2, ↓px_nl, ↓px_i1, ↓px_l1, ↓px_r1_o, ↓px_q1, ↓px_i2, ↓px_l2, ↓px_il, ↓px_d0, ↓px_d1, ↓px_d2, ↓px_pop, px_sz, ↓px_sp, ↓px_rd, ↓px_pt, ↓px_rok, ↓px_rv_o, ↓px_fill, ↓px_sl, ↓px_sw, ↓pn_SW, lc_lt, lc_ge, lc_gt, lc_le, lc_eq, ↓reduceIte, Nat.reduceEqDiff, Nat.reduceLeDiff, Nat.reduceAdd, Nat.reduceSub, reduceCtorEq, List.length_cons, List.length_nil, Option.toList_some, Option.toList_none, List.cons_append, List.nil_append, true_and, and_true, false_and, and_false, true_or, or_true, false_or, or_false, and_self, or_self, not_false_eq_true, not_true_eq_false, false_implies, forall_const, true_implies, eq_self, ↓kI_s, ↓kJ_s, ↓kN_s, ↓kO_s, ↓kZ_s, ↓kE_s, oW_and, ↓bk_12010, ↓pn_i12010, oW_some, oW_none, oW_bind, oW_map, oW_ite, oW_bn, oW_gd, oW_oA, Sum.elim_inl, Sum.elim_inr, ↓Sg_2005, ↓Sg_12059]
    exact hz
/-- NoThree.join(II)I -/
noncomputable def f_12011 (tab : px_T) (σ : px_M) (x0 : Nat) (x1 : Int32) (x2 : Int32) : Option (Int32 × px_M) := gd (px_obj (px_lay tab x0) 12) ((((σ).2.2 x0 0)).bind fun n1 => gd (px_obj (px_lay tab n1) 1) (gd (px_obj (px_lay tab x0) 12) ((((σ).2.2 n1 0)).bind fun n2 => (f_12059 tab σ x0 n2).bind fun q3 => gd (px_obj (px_lay tab x0) 12) ((((q3).2.2 x0 9)).bind fun n4 => gd (px_obj (px_lay tab n4) 2) ((f_2005 tab q3 n4 x1 x2).bind fun q5 => if q5.1 = nI 0 then (gd (px_obj (px_lay tab x0) 12) ((((q5.2).2.2 x0 0)).bind fun n6 => gd (px_obj (px_lay tab n6) 1) ((f_1004 tab q5.2 n6).bind fun q7 => gd (px_obj (px_lay tab x0) 12) ((((q7).2.2 x0 0)).bind fun n8 => gd (px_obj (px_lay tab n8) 1) ((((q7).2.2 n8 0)).bind fun n9 => gd (px_obj (px_lay tab n9) 11) ((f_11009 tab q7 n9 x1 x2).bind fun q10 => gd (px_obj (px_lay tab x0) 12) ((((q10).2.2 x0 0)).bind fun n11 => gd (px_obj (px_lay tab n11) 1) ((((q10).2.2 n11 0)).bind fun n12 => gd (px_obj (px_lay tab n12) 11) ((f_11015 tab q10 n12).bind fun r13 => some ((r13, q10))))))))))) else (some ((((-10) - q5.1), q5.2))))))))
def Sg_12011 (g : px_M → Nat → Int32 → Int32 → Option (Int32 × px_M)) : px_S := fun av σ k => px_r1 av (fun x0 av => px_i1 av (fun x1 av => px_i1 av (fun x2 av => av = [] ∧ oW (g σ x0 x1 x2) (fun q => k (some (.inl q.1)) q.2))))
set_option maxHeartbeats 4000000 in
set_option maxRecDepth 100000 in
theorem mf_12011 {tab : px_T} (hn : (tab.map Prod.fst).Nodup) {h : Nat} (hh : 31 ≤ h) : px_Ok tab pn_i12011 h (Sg_12011 (f_12011 tab)) := by
  refine px_mth hn (by decide +kernel) (fun av σ k hS => ?_) (fun C hT hC av σ k hS => ?_)
  · obtain ⟨x0, av0, e0, h0⟩ := px_r1_spec hS
    obtain ⟨x1, av1, e1, h1⟩ := px_i1_spec h0
    obtain ⟨x2, av2, e2, h2⟩ := px_i1_spec h1
    obtain ⟨ez, hz⟩ := h2
    subst ez
    subst e2
    subst e1
    subst e0
    exact Nat.le_of_ble_eq_true rfl
  · obtain ⟨x0, av0, e0, h0⟩ := px_r1_spec hS
    obtain ⟨x1, av1, e1, h1⟩ := px_i1_spec h0
    obtain ⟨x2, av2, e2, h2⟩ := px_i1_spec h1
    obtain ⟨ez, hz⟩ := h2
    subst ez
    subst e2
    subst e1
    subst e0
    subst hT
    refine px_runG (h - 1) ck_12011 [(1004, Sg_1004 (f_1004 (px_tb C))), (2005, Sg_2005 (f_2005 (px_tb C))), (11009, Sg_11009 (f_11009 (px_tb C))), (11015, Sg_11015 (f_11015 (px_tb C))), (12059, Sg_12059 (f_12059 (px_tb C)))] [] 80 hC (px_sp1 (mf_1004 hn (by omega)) (px_sp1 (mf_2005 hn (by omega)) (px_sp1 (mf_11009 hn (by omega)) (px_sp1 (mf_11015 hn (by omega)) (px_sp1 (mf_12059 hn (by omega)) px_nosp))))) (by omega) px_nocut (fun G Jf hG hJf => ?_)
    simp only [f_12011, oW_some, oW_none, oW_bind, oW_map, oW_ite, oW_bn, oW_gd, oW_oA, Sum.elim_inl, Sum.elim_inr, oW_and, true_and, and_true, false_and, and_false, true_or, or_true, false_or, or_false, and_self, or_self, not_false_eq_true, not_true_eq_false, false_implies, forall_const, true_implies, eq_self, ↓reduceIte] at hz
    simp only [↓hG, ↓hJf, ↓px_vc, ↓px_ex, ↓px_jp, ↓px_gi, ↓px_gl, ↓px_gr, ↓px_s1, ↓px_s2, ↓px_nl, ↓px_i1, ↓px_l1, ↓px_r1_o, ↓px_q1, ↓px_i2, ↓px_l2, ↓px_il, ↓px_d0, ↓px_d1, ↓px_d2, ↓px_pop, px_sz, ↓px_sp, ↓px_rd, ↓px_pt, ↓px_rok, ↓px_rv_o, ↓px_fill, ↓px_sl, ↓px_sw, ↓pn_SW, lc_lt, lc_ge, lc_gt, lc_le, lc_eq, ↓reduceIte, Nat.reduceEqDiff, Nat.reduceLeDiff, Nat.reduceAdd, Nat.reduceSub, reduceCtorEq, List.length_cons, List.length_nil, Option.toList_some, Option.toList_none, List.cons_append, List.nil_append, true_and, and_true, false_and, and_false, true_or, or_true, false_or, or_false, and_self, or_self, not_false_eq_true, not_true_eq_false, false_implies, forall_const, true_implies, eq_self, ↓kI_s, ↓kJ_s, ↓kN_s, ↓kO_s, ↓kZ_s, ↓kE_s, oW_and, ↓bk_12011, ↓pn_i12011, oW_some, oW_none, oW_bind, oW_map, oW_ite, oW_bn, oW_gd, oW_oA, Sum.elim_inl, Sum.elim_inr, ↓Sg_1004, ↓Sg_2005, ↓Sg_11009, ↓Sg_11015, ↓Sg_12059]
    exact hz
/-- NoThree.reasonAgainstWall(II)I -/
noncomputable def f_12061 (tab : px_T) (σ : px_M) (x0 : Nat) (x1 : Int32) (x2 : Int32) : Option (Int32) := gd (px_obj (px_lay tab x0) 12) ((((σ).2.2 x0 0)).bind fun n1 => gd (px_obj (px_lay tab n1) 1) ((((σ).2.2 n1 0)).bind fun n2 => gd (px_obj (px_lay tab n2) 11) ((f_11003 tab σ n2 x1 x2).bind fun r3 => bn (r3 = nI 0) (gd (px_obj (px_lay tab x0) 12) ((((σ).2.2 x0 0)).bind fun n4 => gd (px_obj (px_lay tab n4) 1) ((((σ).2.2 n4 0)).bind fun n5 => gd (px_obj (px_lay tab n5) 11) ((f_11006 tab σ n5 x1 x2).bind fun r6 => if r6 = nI 0 then (some ((nI 5))) else (some ((nI 0))))))) (some ((nI 1))))))
def Sg_12061 (g : px_M → Nat → Int32 → Int32 → Option (Int32)) : px_S := fun av σ k => px_r1 av (fun x0 av => px_i1 av (fun x1 av => px_i1 av (fun x2 av => av = [] ∧ oW (g σ x0 x1 x2) (fun r => k (some (.inl r)) σ))))
set_option maxHeartbeats 4000000 in
set_option maxRecDepth 100000 in
theorem mf_12061 {tab : px_T} (hn : (tab.map Prod.fst).Nodup) {h : Nat} (hh : 3 ≤ h) : px_Ok tab pn_i12061 h (Sg_12061 (f_12061 tab)) := by
  refine px_mth hn (by decide +kernel) (fun av σ k hS => ?_) (fun C hT hC av σ k hS => ?_)
  · obtain ⟨x0, av0, e0, h0⟩ := px_r1_spec hS
    obtain ⟨x1, av1, e1, h1⟩ := px_i1_spec h0
    obtain ⟨x2, av2, e2, h2⟩ := px_i1_spec h1
    obtain ⟨ez, hz⟩ := h2
    subst ez
    subst e2
    subst e1
    subst e0
    exact Nat.le_of_ble_eq_true rfl
  · obtain ⟨x0, av0, e0, h0⟩ := px_r1_spec hS
    obtain ⟨x1, av1, e1, h1⟩ := px_i1_spec h0
    obtain ⟨x2, av2, e2, h2⟩ := px_i1_spec h1
    obtain ⟨ez, hz⟩ := h2
    subst ez
    subst e2
    subst e1
    subst e0
    subst hT
    refine px_runG (h - 1) ck_12061 [(11003, Sg_11003 (f_11003 (px_tb C))), (11006, Sg_11006 (f_11006 (px_tb C)))] [] 80 hC (px_sp1 (mf_11003 hn (by omega)) (px_sp1 (mf_11006 hn (by omega)) px_nosp)) (by omega) px_nocut (fun G Jf hG hJf => ?_)
    simp only [f_12061, oW_some, oW_none, oW_bind, oW_map, oW_ite, oW_bn, oW_gd, oW_oA, Sum.elim_inl, Sum.elim_inr, oW_and, true_and, and_true, false_and, and_false, true_or, or_true, false_or, or_false, and_self, or_self, not_false_eq_true, not_true_eq_false, false_implies, forall_const, true_implies, eq_self, ↓reduceIte] at hz
    simp only [↓hG, ↓hJf, ↓px_vc, ↓px_ex, ↓px_jp, ↓px_gi, ↓px_gl, ↓px_gr, ↓px_s1, ↓px_s2, ↓px_nl, ↓px_i1, ↓px_l1, ↓px_r1_o, ↓px_q1, ↓px_i2, ↓px_l2, ↓px_il, ↓px_d0, ↓px_d1, ↓px_d2, ↓px_pop, px_sz, ↓px_sp, ↓px_rd, ↓px_pt, ↓px_rok, ↓px_rv_o, ↓px_fill, ↓px_sl, ↓px_sw, ↓pn_SW, lc_lt, lc_ge, lc_gt, lc_le, lc_eq, ↓reduceIte, Nat.reduceEqDiff, Nat.reduceLeDiff, Nat.reduceAdd, Nat.reduceSub, reduceCtorEq, List.length_cons, List.length_nil, Option.toList_some, Option.toList_none, List.cons_append, List.nil_append, true_and, and_true, false_and, and_false, true_or, or_true, false_or, or_false, and_self, or_self, not_false_eq_true, not_true_eq_false, false_implies, forall_const, true_implies, eq_self, ↓kI_s, ↓kJ_s, ↓kN_s, ↓kO_s, ↓kZ_s, ↓kE_s, oW_and, ↓bk_12061, ↓pn_i12061, oW_some, oW_none, oW_bind, oW_map, oW_ite, oW_bn, oW_gd, oW_oA, Sum.elim_inl, Sum.elim_inr, ↓Sg_11003, ↓Sg_11006]
    exact hz
/-- NoThree.wall(II)I -/
noncomputable def f_12012 (tab : px_T) (σ : px_M) (x0 : Nat) (x1 : Int32) (x2 : Int32) : Option (Int32 × px_M) := gd (px_obj (px_lay tab x0) 12) ((f_12061 tab σ x0 x1 x2).bind fun r1 => if r1 = nI 0 then (gd (px_obj (px_lay tab x0) 12) ((((σ).2.2 x0 0)).bind fun n2 => gd (px_obj (px_lay tab n2) 1) ((f_1004 tab σ n2).bind fun q3 => gd (px_obj (px_lay tab x0) 12) ((((q3).2.2 x0 0)).bind fun n4 => gd (px_obj (px_lay tab n4) 1) ((((q3).2.2 n4 0)).bind fun n5 => gd (px_obj (px_lay tab n5) 11) ((f_11010 tab q3 n5 x1 x2).bind fun q6 => gd (px_obj (px_lay tab x0) 12) ((((q6).2.2 x0 0)).bind fun n7 => gd (px_obj (px_lay tab n7) 1) ((((q6).2.2 n7 0)).bind fun n8 => gd (px_obj (px_lay tab n8) 11) ((f_11015 tab q6 n8).bind fun r9 => some ((r9, q6))))))))))) else (some ((((-10) - r1), σ))))
def Sg_12012 (g : px_M → Nat → Int32 → Int32 → Option (Int32 × px_M)) : px_S := fun av σ k => px_r1 av (fun x0 av => px_i1 av (fun x1 av => px_i1 av (fun x2 av => av = [] ∧ oW (g σ x0 x1 x2) (fun q => k (some (.inl q.1)) q.2))))
set_option maxHeartbeats 4000000 in
set_option maxRecDepth 100000 in
theorem mf_12012 {tab : px_T} (hn : (tab.map Prod.fst).Nodup) {h : Nat} (hh : 4 ≤ h) : px_Ok tab pn_i12012 h (Sg_12012 (f_12012 tab)) := by
  refine px_mth hn (by decide +kernel) (fun av σ k hS => ?_) (fun C hT hC av σ k hS => ?_)
  · obtain ⟨x0, av0, e0, h0⟩ := px_r1_spec hS
    obtain ⟨x1, av1, e1, h1⟩ := px_i1_spec h0
    obtain ⟨x2, av2, e2, h2⟩ := px_i1_spec h1
    obtain ⟨ez, hz⟩ := h2
    subst ez
    subst e2
    subst e1
    subst e0
    exact Nat.le_of_ble_eq_true rfl
  · obtain ⟨x0, av0, e0, h0⟩ := px_r1_spec hS
    obtain ⟨x1, av1, e1, h1⟩ := px_i1_spec h0
    obtain ⟨x2, av2, e2, h2⟩ := px_i1_spec h1
    obtain ⟨ez, hz⟩ := h2
    subst ez
    subst e2
    subst e1
    subst e0
    subst hT
    refine px_runG (h - 1) ck_12012 [(1004, Sg_1004 (f_1004 (px_tb C))), (11010, Sg_11010 (f_11010 (px_tb C))), (11015, Sg_11015 (f_11015 (px_tb C))), (12061, Sg_12061 (f_12061 (px_tb C)))] [] 80 hC (px_sp1 (mf_1004 hn (by omega)) (px_sp1 (mf_11010 hn (by omega)) (px_sp1 (mf_11015 hn (by omega)) (px_sp1 (mf_12061 hn (by omega)) px_nosp)))) (by omega) px_nocut (fun G Jf hG hJf => ?_)
    simp only [f_12012, oW_some, oW_none, oW_bind, oW_map, oW_ite, oW_bn, oW_gd, oW_oA, Sum.elim_inl, Sum.elim_inr, oW_and, true_and, and_true, false_and, and_false, true_or, or_true, false_or, or_false, and_self, or_self, not_false_eq_true, not_true_eq_false, false_implies, forall_const, true_implies, eq_self, ↓reduceIte] at hz
    simp only [↓hG, ↓hJf, ↓px_vc, ↓px_ex, ↓px_jp, ↓px_gi, ↓px_gl, ↓px_gr, ↓px_s1, ↓px_s2, ↓px_nl, ↓px_i1, ↓px_l1, ↓px_r1_o, ↓px_q1, ↓px_i2, ↓px_l2, ↓px_il, ↓px_d0, ↓px_d1, ↓px_d2, ↓px_pop, px_sz, ↓px_sp, ↓px_rd, ↓px_pt, ↓px_rok, ↓px_rv_o, ↓px_fill, ↓px_sl, ↓px_sw, ↓pn_SW, lc_lt, lc_ge, lc_gt, lc_le, lc_eq, ↓reduceIte, Nat.reduceEqDiff, Nat.reduceLeDiff, Nat.reduceAdd, Nat.reduceSub, reduceCtorEq, List.length_cons, List.length_nil, Option.toList_some, Option.toList_none, List.cons_append, List.nil_append, true_and, and_true, false_and, and_false, true_or, or_true, false_or, or_false, and_self, or_self, not_false_eq_true, not_true_eq_false, false_implies, forall_const, true_implies, eq_self, ↓kI_s, ↓kJ_s, ↓kN_s, ↓kO_s, ↓kZ_s, ↓kE_s, oW_and, ↓bk_12012, ↓pn_i12012, oW_some, oW_none, oW_bind, oW_map, oW_ite, oW_bn, oW_gd, oW_oA, Sum.elim_inl, Sum.elim_inr, ↓Sg_1004, ↓Sg_11010, ↓Sg_11015, ↓Sg_12061]
    exact hz
/-- NoThree.may(I)I -/
noncomputable def F_12013_32 (tab : px_T) (x0 : Nat) (x1 : Int32) (x2 : Int32) (x3 : Int32) (σ : px_M) : Option ((Int32 × Int32 × px_M) ⊕ (Int32 × px_M)) := gd (px_obj (px_lay tab x0) 12) ((((σ).2.2 x0 0)).bind fun n1 => gd (px_obj (px_lay tab n1) 1) ((((σ).2.2 n1 0)).bind fun n2 => gd (px_obj (px_lay tab n2) 11) (if ((σ).1 n2 0) ≤ x3 then (some (.inr ((x2, σ)))) else (gd (px_obj (px_lay tab x0) 12) ((((σ).2.2 x0 9)).bind fun n3 => gd (px_obj (px_lay tab n3) 2) ((f_2005 tab σ n3 x1 x3).bind fun q4 => bn (q4.1 = nI 0) (some (.inl ((x2, (x3 + (nI 1)), q4.2)))) (some (.inl (((x2 ||| ((nI 1) <<< (x3 &&& 31))), (x3 + (nI 1)), q4.2))))))))))
noncomputable def f_12013_32 (tab : px_T) (x0 : Nat) (x1 : Int32) (x2 : Int32) (x3 : Int32) (σ : px_M) : Option (Int32 × px_M) := lpO (fun s : Int32 × Int32 × px_M => F_12013_32 tab x0 x1 s.1 s.2.1 s.2.2) (x2, x3, σ)
theorem f_12013_32_eq (tab : px_T) (x0 : Nat) (x1 : Int32) (x2 : Int32) (x3 : Int32) (σ : px_M) : f_12013_32 tab x0 x1 x2 x3 σ = (F_12013_32 tab x0 x1 x2 x3 σ).bind (Sum.elim (fun s => f_12013_32 tab x0 x1 s.1 s.2.1 s.2.2) some) := lpO_eq _ _
noncomputable def f_12013 (tab : px_T) (σ : px_M) (x0 : Nat) (x1 : Int32) : Option (Int32 × px_M) := gd (px_obj (px_lay tab x0) 12) ((((σ).2.2 x0 0)).bind fun n1 => gd (px_obj (px_lay tab n1) 1) ((((σ).2.2 n1 0)).bind fun n2 => gd (px_obj (px_lay tab n2) 11) ((f_11002 tab σ n2 x1).bind fun r3 => bn (r3 = nI 0) (gd (px_obj (px_lay tab x0) 12) ((((σ).2.2 x0 0)).bind fun n4 => gd (px_obj (px_lay tab n4) 1) (gd (px_obj (px_lay tab x0) 12) ((((σ).2.2 n4 0)).bind fun n5 => (f_12059 tab σ x0 n5).bind fun q6 => f_12013_32 tab x0 x1 ((nI 0)) ((nI 0)) q6)))) (some (((-2), σ))))))
def Sg_12013 (g : px_M → Nat → Int32 → Option (Int32 × px_M)) : px_S := fun av σ k => px_r1 av (fun x0 av => px_i1 av (fun x1 av => av = [] ∧ oW (g σ x0 x1) (fun q => k (some (.inl q.1)) q.2)))
def kp_12013_32 (Q : Nat → Int32 → Int32 → Int32 → px_M → Prop) : px_P := fun ls st τ => st = [] ∧ kN ls (fun x0 ls => kI ls (fun x1 ls => kI ls (fun x2 ls => kI ls (fun x3 ls => kE ls (Q x0 x1 x2 x3 τ)))))
theorem kq_12013_32 {C : px_C} {k : Option px_V → px_M → Prop} {Q : Nat → Int32 → Int32 → Int32 → px_M → Prop} (H : ∀ (x0 : Nat) (x1 : Int32) (x2 : Int32) (x3 : Int32) (τ : px_M), Q x0 x1 x2 x3 τ → px_W C k 32 [some (.inr (.inr (some x0))), some (.inl x1), some (.inl x2), some (.inl x3)] [] τ) : ∀ ls st τ, kp_12013_32 Q ls st τ → px_W C k 32 ls st τ := by
  intro ls st τ hz
  obtain ⟨ez, h0⟩ := hz
  obtain ⟨x0, l0, e0, h1⟩ := kN_sp h0
  obtain ⟨x1, l1, e1, h2⟩ := kI_sp h1
  obtain ⟨x2, l2, e2, h3⟩ := kI_sp h2
  obtain ⟨x3, l3, e3, h4⟩ := kI_sp h3
  obtain ⟨ey, hy⟩ := kE_sp h4
  subst ez
  subst ey
  subst e3
  subst e2
  subst e1
  subst e0
  exact H x0 x1 x2 x3 τ hy
set_option maxHeartbeats 4000000 in
set_option maxRecDepth 100000 in
theorem rl_12013_32 {C : px_C} (hn : ((px_tb C).map Prod.fst).Nodup) {h : Nat} (hh : 31 ≤ h) (hC : px_ok C pn_i12013 h) {k : Option px_V → px_M → Prop} {x0 : Nat} {x1 : Int32} : ∀ s : Int32 × Int32 × px_M, oW (f_12013_32 (px_tb C) x0 x1 s.1 s.2.1 s.2.2) (fun q => k (some (.inl q.1)) q.2) → (fun s : Int32 × Int32 × px_M => px_W C k 32 [some (.inr (.inr (some x0))), some (.inl x1), some (.inl s.1), some (.inl s.2.1)] [] s.2.2) s := by
  intro s h0
  refine lpO_sound (P := (fun s : Int32 × Int32 × px_M => px_W C k 32 [some (.inr (.inr (some x0))), some (.inl x1), some (.inl s.1), some (.inl s.2.1)] [] s.2.2)) (fun s hs => ?_) h0
  obtain ⟨x2, x3, σ⟩ := s
  refine px_runG (h - 1) ck_12013 [(2005, Sg_2005 (f_2005 (px_tb C)))] [(32, kp_12013_32 (fun y0 y1 y2 y3 τ => y0 = x0 ∧ y1 = x1 ∧ (fun s : Int32 × Int32 × px_M => px_W C k 32 [some (.inr (.inr (some x0))), some (.inl x1), some (.inl s.1), some (.inl s.2.1)] [] s.2.2) (y2, y3, τ)))] 80 hC (px_sp1 (mf_2005 hn (by omega)) px_nosp) (by omega) (px_cut1 (kq_12013_32 (fun y0 y1 y2 y3 τ hq => by obtain ⟨rfl, rfl, hq⟩ := hq; exact hq)) px_nocut) (fun G Jf hG hJf => ?_)
  simp only [F_12013_32, oW_some, oW_none, oW_bind, oW_map, oW_ite, oW_bn, oW_gd, oW_oA, Sum.elim_inl, Sum.elim_inr, oW_and, true_and, and_true, false_and, and_false, true_or, or_true, false_or, or_false, and_self, or_self, not_false_eq_true, not_true_eq_false, false_implies, forall_const, true_implies, eq_self, ↓reduceIte] at hs
  simp only [↓hG, ↓hJf, ↓px_vc, ↓px_ex, ↓px_jp, ↓px_gi, ↓px_gl, ↓px_gr, ↓px_s1, ↓px_s2, ↓px_nl, ↓px_i1, ↓px_l1, ↓px_r1_o, ↓px_q1, ↓px_i2, ↓px_l2, ↓px_il, ↓px_d0, ↓px_d1, ↓px_d2, ↓px_pop, px_sz, ↓px_sp, ↓px_rd, ↓px_pt, ↓px_rok, ↓px_rv_o, ↓px_fill, ↓px_sl, ↓px_sw, ↓pn_SW, lc_lt, lc_ge, lc_gt, lc_le, lc_eq, ↓reduceIte, Nat.reduceEqDiff, Nat.reduceLeDiff, Nat.reduceAdd, Nat.reduceSub, reduceCtorEq, List.length_cons, List.length_nil, Option.toList_some, Option.toList_none, List.cons_append, List.nil_append, true_and, and_true, false_and, and_false, true_or, or_true, false_or, or_false, and_self, or_self, not_false_eq_true, not_true_eq_false, false_implies, forall_const, true_implies, eq_self, ↓kI_s, ↓kJ_s, ↓kN_s, ↓kO_s, ↓kZ_s, ↓kE_s, oW_and, ↓bk_12013, ↓pn_i12013, oW_some, oW_none, oW_bind, oW_map, oW_ite, oW_bn, oW_gd, oW_oA, Sum.elim_inl, Sum.elim_inr, ↓Sg_2005, ↓kp_12013_32]
  exact hs
set_option maxHeartbeats 4000000 in
set_option maxRecDepth 100000 in
theorem mf_12013 {tab : px_T} (hn : (tab.map Prod.fst).Nodup) {h : Nat} (hh : 31 ≤ h) : px_Ok tab pn_i12013 h (Sg_12013 (f_12013 tab)) := by
  refine px_mth hn (by decide +kernel) (fun av σ k hS => ?_) (fun C hT hC av σ k hS => ?_)
  · obtain ⟨x0, av0, e0, h0⟩ := px_r1_spec hS
    obtain ⟨x1, av1, e1, h1⟩ := px_i1_spec h0
    obtain ⟨ez, hz⟩ := h1
    subst ez
    subst e1
    subst e0
    exact Nat.le_of_ble_eq_true rfl
  · obtain ⟨x0, av0, e0, h0⟩ := px_r1_spec hS
    obtain ⟨x1, av1, e1, h1⟩ := px_i1_spec h0
    obtain ⟨ez, hz⟩ := h1
    subst ez
    subst e1
    subst e0
    subst hT
    refine px_runG (h - 1) ck_12013 [(11002, Sg_11002 (f_11002 (px_tb C))), (12059, Sg_12059 (f_12059 (px_tb C)))] [(32, kp_12013_32 (fun y0 y1 y2 y3 τ => oW (f_12013_32 (px_tb C) y0 y1 y2 y3 τ) (fun q => k (some (.inl q.1)) q.2)))] 80 hC (px_sp1 (mf_11002 hn (by omega)) (px_sp1 (mf_12059 hn (by omega)) px_nosp)) (by omega) (px_cut1 (kq_12013_32 (fun y0 y1 y2 y3 τ hq => by exact rl_12013_32 hn (by omega) hC (y2, y3, τ) hq)) px_nocut) (fun G Jf hG hJf => ?_)
    simp only [f_12013, oW_some, oW_none, oW_bind, oW_map, oW_ite, oW_bn, oW_gd, oW_oA, Sum.elim_inl, Sum.elim_inr, oW_and, true_and, and_true, false_and, and_false, true_or, or_true, false_or, or_false, and_self, or_self, not_false_eq_true, not_true_eq_false, false_implies, forall_const, true_implies, eq_self, ↓reduceIte] at hz
    simp only [↓hG, ↓hJf, ↓px_vc, ↓px_ex, ↓px_jp, ↓px_gi, ↓px_gl, ↓px_gr, ↓px_s1, ↓px_s2, ↓px_nl, ↓px_i1, ↓px_l1, ↓px_r1_o, ↓px_q1, ↓px_i2, ↓px_l2, ↓px_il, ↓px_d0, ↓px_d1, ↓px_d2, ↓px_pop, px_sz, ↓px_sp, ↓px_rd, ↓px_pt, ↓px_rok, ↓px_rv_o, ↓px_fill, ↓px_sl, ↓px_sw, ↓pn_SW, lc_lt, lc_ge, lc_gt, lc_le, lc_eq, ↓reduceIte, Nat.reduceEqDiff, Nat.reduceLeDiff, Nat.reduceAdd, Nat.reduceSub, reduceCtorEq, List.length_cons, List.length_nil, Option.toList_some, Option.toList_none, List.cons_append, List.nil_append, true_and, and_true, false_and, and_false, true_or, or_true, false_or, or_false, and_self, or_self, not_false_eq_true, not_true_eq_false, false_implies, forall_const, true_implies, eq_self, ↓kI_s, ↓kJ_s, ↓kN_s, ↓kO_s, ↓kZ_s, ↓kE_s, oW_and, ↓bk_12013, ↓pn_i12013, oW_some, oW_none, oW_bind, oW_map, oW_ite, oW_bn, oW_gd, oW_oA, Sum.elim_inl, Sum.elim_inr, ↓Sg_11002, ↓Sg_12059, ↓kp_12013_32]
    exact hz
/-- NoThree.settle(I)V -/
noncomputable def f_12060 (tab : px_T) (σ : px_M) (x0 : Nat) (x1 : Int32) : Option (px_M) := gd (px_obj (px_lay tab x0) 12) ((((σ).2.2 x0 0)).bind fun n1 => gd (px_obj (px_lay tab n1) 1) ((f_1004 tab σ n1).bind fun q2 => gd (px_obj (px_lay tab x0) 12) ((((q2).2.2 x0 0)).bind fun n3 => gd (px_obj (px_lay tab n3) 1) ((((q2).2.2 n3 0)).bind fun n4 => gd (px_obj (px_lay tab n4) 11) ((f_11011 tab q2 n4 x1).bind fun q5 => some (q5))))))
def Sg_12060 (g : px_M → Nat → Int32 → Option (px_M)) : px_S := fun av σ k => px_r1 av (fun x0 av => px_i1 av (fun x1 av => av = [] ∧ oW (g σ x0 x1) (fun τ => k none τ)))
set_option maxHeartbeats 4000000 in
set_option maxRecDepth 100000 in
theorem mf_12060 {tab : px_T} (hn : (tab.map Prod.fst).Nodup) {h : Nat} (hh : 5 ≤ h) : px_Ok tab pn_i12060 h (Sg_12060 (f_12060 tab)) := by
  refine px_mth hn (by decide +kernel) (fun av σ k hS => ?_) (fun C hT hC av σ k hS => ?_)
  · obtain ⟨x0, av0, e0, h0⟩ := px_r1_spec hS
    obtain ⟨x1, av1, e1, h1⟩ := px_i1_spec h0
    obtain ⟨ez, hz⟩ := h1
    subst ez
    subst e1
    subst e0
    exact Nat.le_of_ble_eq_true rfl
  · obtain ⟨x0, av0, e0, h0⟩ := px_r1_spec hS
    obtain ⟨x1, av1, e1, h1⟩ := px_i1_spec h0
    obtain ⟨ez, hz⟩ := h1
    subst ez
    subst e1
    subst e0
    subst hT
    refine px_runG (h - 1) ck_12060 [(1004, Sg_1004 (f_1004 (px_tb C))), (11011, Sg_11011 (f_11011 (px_tb C)))] [] 80 hC (px_sp1 (mf_1004 hn (by omega)) (px_sp1 (mf_11011 hn (by omega)) px_nosp)) (by omega) px_nocut (fun G Jf hG hJf => ?_)
    simp only [f_12060, oW_some, oW_none, oW_bind, oW_map, oW_ite, oW_bn, oW_gd, oW_oA, Sum.elim_inl, Sum.elim_inr, oW_and, true_and, and_true, false_and, and_false, true_or, or_true, false_or, or_false, and_self, or_self, not_false_eq_true, not_true_eq_false, false_implies, forall_const, true_implies, eq_self, ↓reduceIte] at hz
    simp only [↓hG, ↓hJf, ↓px_vc, ↓px_ex, ↓px_jp, ↓px_gi, ↓px_gl, ↓px_gr, ↓px_s1, ↓px_s2, ↓px_nl, ↓px_i1, ↓px_l1, ↓px_r1_o, ↓px_q1, ↓px_i2, ↓px_l2, ↓px_il, ↓px_d0, ↓px_d1, ↓px_d2, ↓px_pop, px_sz, ↓px_sp, ↓px_rd, ↓px_pt, ↓px_rok, ↓px_rv_o, ↓px_fill, ↓px_sl, ↓px_sw, ↓pn_SW, lc_lt, lc_ge, lc_gt, lc_le, lc_eq, ↓reduceIte, Nat.reduceEqDiff, Nat.reduceLeDiff, Nat.reduceAdd, Nat.reduceSub, reduceCtorEq, List.length_cons, List.length_nil, Option.toList_some, Option.toList_none, List.cons_append, List.nil_append, true_and, and_true, false_and, and_false, true_or, or_true, false_or, or_false, and_self, or_self, not_false_eq_true, not_true_eq_false, false_implies, forall_const, true_implies, eq_self, ↓kI_s, ↓kJ_s, ↓kN_s, ↓kO_s, ↓kZ_s, ↓kE_s, oW_and, ↓bk_12060, ↓pn_i12060, oW_some, oW_none, oW_bind, oW_map, oW_ite, oW_bn, oW_gd, oW_oA, Sum.elim_inl, Sum.elim_inr, ↓Sg_1004, ↓Sg_11011]
    exact hz
/-- NoThree.enter(I)I -/
noncomputable def f_12014 (tab : px_T) (σ : px_M) (x0 : Nat) (x1 : Int32) : Option (Int32 × px_M) := gd (px_obj (px_lay tab x0) 12) ((((σ).2.2 x0 0)).bind fun n1 => gd (px_obj (px_lay tab n1) 1) (gd (px_obj (px_lay tab x0) 12) ((((σ).2.2 n1 0)).bind fun n2 => (f_12059 tab σ x0 n2).bind fun q3 => gd (px_obj (px_lay tab x0) 12) ((((q3).2.2 x0 9)).bind fun n4 => gd (px_obj (px_lay tab n4) 2) ((f_2006 tab q3 n4 x1).bind fun q5 => if q5.1 = nI 0 then (gd (px_obj (px_lay tab x0) 12) ((f_12060 tab q5.2 x0 x1).bind fun q6 => gd (px_obj (px_lay tab x0) 12) ((((q6).2.2 x0 0)).bind fun n7 => gd (px_obj (px_lay tab n7) 1) ((((q6).2.2 n7 0)).bind fun n8 => gd (px_obj (px_lay tab n8) 11) (some (((((q6).1 n8 0) - (nI 1)), q6))))))) else (some ((((-10) - q5.1), q5.2))))))))
def Sg_12014 (g : px_M → Nat → Int32 → Option (Int32 × px_M)) : px_S := fun av σ k => px_r1 av (fun x0 av => px_i1 av (fun x1 av => av = [] ∧ oW (g σ x0 x1) (fun q => k (some (.inl q.1)) q.2)))
set_option maxHeartbeats 4000000 in
set_option maxRecDepth 100000 in
theorem mf_12014 {tab : px_T} (hn : (tab.map Prod.fst).Nodup) {h : Nat} (hh : 31 ≤ h) : px_Ok tab pn_i12014 h (Sg_12014 (f_12014 tab)) := by
  refine px_mth hn (by decide +kernel) (fun av σ k hS => ?_) (fun C hT hC av σ k hS => ?_)
  · obtain ⟨x0, av0, e0, h0⟩ := px_r1_spec hS
    obtain ⟨x1, av1, e1, h1⟩ := px_i1_spec h0
    obtain ⟨ez, hz⟩ := h1
    subst ez
    subst e1
    subst e0
    exact Nat.le_of_ble_eq_true rfl
  · obtain ⟨x0, av0, e0, h0⟩ := px_r1_spec hS
    obtain ⟨x1, av1, e1, h1⟩ := px_i1_spec h0
    obtain ⟨ez, hz⟩ := h1
    subst ez
    subst e1
    subst e0
    subst hT
    refine px_runG (h - 1) ck_12014 [(2006, Sg_2006 (f_2006 (px_tb C))), (12059, Sg_12059 (f_12059 (px_tb C))), (12060, Sg_12060 (f_12060 (px_tb C)))] [] 80 hC (px_sp1 (mf_2006 hn (by omega)) (px_sp1 (mf_12059 hn (by omega)) (px_sp1 (mf_12060 hn (by omega)) px_nosp))) (by omega) px_nocut (fun G Jf hG hJf => ?_)
    simp only [f_12014, oW_some, oW_none, oW_bind, oW_map, oW_ite, oW_bn, oW_gd, oW_oA, Sum.elim_inl, Sum.elim_inr, oW_and, true_and, and_true, false_and, and_false, true_or, or_true, false_or, or_false, and_self, or_self, not_false_eq_true, not_true_eq_false, false_implies, forall_const, true_implies, eq_self, ↓reduceIte] at hz
    simp only [↓hG, ↓hJf, ↓px_vc, ↓px_ex, ↓px_jp, ↓px_gi, ↓px_gl, ↓px_gr, ↓px_s1, ↓px_s2, ↓px_nl, ↓px_i1, ↓px_l1, ↓px_r1_o, ↓px_q1, ↓px_i2, ↓px_l2, ↓px_il, ↓px_d0, ↓px_d1, ↓px_d2, ↓px_pop, px_sz, ↓px_sp, ↓px_rd, ↓px_pt, ↓px_rok, ↓px_rv_o, ↓px_fill, ↓px_sl, ↓px_sw, ↓pn_SW, lc_lt, lc_ge, lc_gt, lc_le, lc_eq, ↓reduceIte, Nat.reduceEqDiff, Nat.reduceLeDiff, Nat.reduceAdd, Nat.reduceSub, reduceCtorEq, List.length_cons, List.length_nil, Option.toList_some, Option.toList_none, List.cons_append, List.nil_append, true_and, and_true, false_and, and_false, true_or, or_true, false_or, or_false, and_self, or_self, not_false_eq_true, not_true_eq_false, false_implies, forall_const, true_implies, eq_self, ↓kI_s, ↓kJ_s, ↓kN_s, ↓kO_s, ↓kZ_s, ↓kE_s, oW_and, ↓bk_12014, ↓pn_i12014, oW_some, oW_none, oW_bind, oW_map, oW_ite, oW_bn, oW_gd, oW_oA, Sum.elim_inl, Sum.elim_inr, ↓Sg_2006, ↓Sg_12059, ↓Sg_12060]
    exact hz
/-- NoThree.leave(I)I -/
noncomputable def f_12015 (tab : px_T) (σ : px_M) (x0 : Nat) (x1 : Int32) : Option (Int32 × px_M) := gd (px_obj (px_lay tab x0) 12) ((((σ).2.2 x0 0)).bind fun n1 => gd (px_obj (px_lay tab n1) 1) ((((σ).2.2 n1 0)).bind fun n2 => gd (px_obj (px_lay tab n2) 11) ((f_11002 tab σ n2 x1).bind fun r3 => bn (r3 = nI 0) (gd (px_obj (px_lay tab x0) 12) ((((σ).2.2 x0 0)).bind fun n4 => gd (px_obj (px_lay tab n4) 1) ((f_1004 tab σ n4).bind fun q5 => gd (px_obj (px_lay tab x0) 12) ((((q5).2.2 x0 0)).bind fun n6 => gd (px_obj (px_lay tab n6) 1) ((((q5).2.2 n6 0)).bind fun n7 => gd (px_obj (px_lay tab n7) 11) ((f_11012 tab q5 n7 x1).bind fun q8 => gd (px_obj (px_lay tab x0) 12) ((((q8).2.2 x0 0)).bind fun n9 => gd (px_obj (px_lay tab n9) 1) ((((q8).2.2 n9 0)).bind fun n10 => gd (px_obj (px_lay tab n10) 11) (some ((((q8).1 n10 0), q8))))))))))) (some (((-11), σ))))))
def Sg_12015 (g : px_M → Nat → Int32 → Option (Int32 × px_M)) : px_S := fun av σ k => px_r1 av (fun x0 av => px_i1 av (fun x1 av => av = [] ∧ oW (g σ x0 x1) (fun q => k (some (.inl q.1)) q.2)))
set_option maxHeartbeats 4000000 in
set_option maxRecDepth 100000 in
theorem mf_12015 {tab : px_T} (hn : (tab.map Prod.fst).Nodup) {h : Nat} (hh : 3 ≤ h) : px_Ok tab pn_i12015 h (Sg_12015 (f_12015 tab)) := by
  refine px_mth hn (by decide +kernel) (fun av σ k hS => ?_) (fun C hT hC av σ k hS => ?_)
  · obtain ⟨x0, av0, e0, h0⟩ := px_r1_spec hS
    obtain ⟨x1, av1, e1, h1⟩ := px_i1_spec h0
    obtain ⟨ez, hz⟩ := h1
    subst ez
    subst e1
    subst e0
    exact Nat.le_of_ble_eq_true rfl
  · obtain ⟨x0, av0, e0, h0⟩ := px_r1_spec hS
    obtain ⟨x1, av1, e1, h1⟩ := px_i1_spec h0
    obtain ⟨ez, hz⟩ := h1
    subst ez
    subst e1
    subst e0
    subst hT
    refine px_runG (h - 1) ck_12015 [(1004, Sg_1004 (f_1004 (px_tb C))), (11002, Sg_11002 (f_11002 (px_tb C))), (11012, Sg_11012 (f_11012 (px_tb C)))] [] 80 hC (px_sp1 (mf_1004 hn (by omega)) (px_sp1 (mf_11002 hn (by omega)) (px_sp1 (mf_11012 hn (by omega)) px_nosp))) (by omega) px_nocut (fun G Jf hG hJf => ?_)
    simp only [f_12015, oW_some, oW_none, oW_bind, oW_map, oW_ite, oW_bn, oW_gd, oW_oA, Sum.elim_inl, Sum.elim_inr, oW_and, true_and, and_true, false_and, and_false, true_or, or_true, false_or, or_false, and_self, or_self, not_false_eq_true, not_true_eq_false, false_implies, forall_const, true_implies, eq_self, ↓reduceIte] at hz
    simp only [↓hG, ↓hJf, ↓px_vc, ↓px_ex, ↓px_jp, ↓px_gi, ↓px_gl, ↓px_gr, ↓px_s1, ↓px_s2, ↓px_nl, ↓px_i1, ↓px_l1, ↓px_r1_o, ↓px_q1, ↓px_i2, ↓px_l2, ↓px_il, ↓px_d0, ↓px_d1, ↓px_d2, ↓px_pop, px_sz, ↓px_sp, ↓px_rd, ↓px_pt, ↓px_rok, ↓px_rv_o, ↓px_fill, ↓px_sl, ↓px_sw, ↓pn_SW, lc_lt, lc_ge, lc_gt, lc_le, lc_eq, ↓reduceIte, Nat.reduceEqDiff, Nat.reduceLeDiff, Nat.reduceAdd, Nat.reduceSub, reduceCtorEq, List.length_cons, List.length_nil, Option.toList_some, Option.toList_none, List.cons_append, List.nil_append, true_and, and_true, false_and, and_false, true_or, or_true, false_or, or_false, and_self, or_self, not_false_eq_true, not_true_eq_false, false_implies, forall_const, true_implies, eq_self, ↓kI_s, ↓kJ_s, ↓kN_s, ↓kO_s, ↓kZ_s, ↓kE_s, oW_and, ↓bk_12015, ↓pn_i12015, oW_some, oW_none, oW_bind, oW_map, oW_ite, oW_bn, oW_gd, oW_oA, Sum.elim_inl, Sum.elim_inr, ↓Sg_1004, ↓Sg_11002, ↓Sg_11012]
    exact hz
/-- NoThree.weave()I -/
noncomputable def f_12016 (tab : px_T) (σ : px_M) (x0 : Nat) : Option (Int32 × px_M) := gd (px_obj (px_lay tab x0) 12) ((((σ).2.2 x0 0)).bind fun n1 => gd (px_obj (px_lay tab n1) 1) ((((σ).2.2 n1 0)).bind fun n2 => gd (px_obj (px_lay tab n2) 11) (if ((σ).1 n2 0) ≤ (nI 5) then (gd (px_obj (px_lay tab x0) 12) ((((σ).2.2 x0 0)).bind fun n3 => gd (px_obj (px_lay tab n3) 1) ((f_1004 tab σ n3).bind fun q4 => gd (px_obj (px_lay tab x0) 12) ((((q4).2.2 x0 0)).bind fun n5 => gd (px_obj (px_lay tab n5) 1) ((((q4).2.2 n5 0)).bind fun n6 => gd (px_obj (px_lay tab n6) 11) ((f_11013 tab q4 n6).bind fun q7 => gd (px_obj (px_lay tab x0) 12) ((((q7).2.2 x0 0)).bind fun n8 => gd (px_obj (px_lay tab n8) 1) ((((q7).2.2 n8 0)).bind fun n9 => gd (px_obj (px_lay tab n9) 11) (some ((((q7).1 n9 0), q7))))))))))) else (some (((-4), σ))))))
def Sg_12016 (g : px_M → Nat → Option (Int32 × px_M)) : px_S := fun av σ k => px_r1 av (fun x0 av => av = [] ∧ oW (g σ x0) (fun q => k (some (.inl q.1)) q.2))
set_option maxHeartbeats 4000000 in
set_option maxRecDepth 100000 in
theorem mf_12016 {tab : px_T} (hn : (tab.map Prod.fst).Nodup) {h : Nat} (hh : 6 ≤ h) : px_Ok tab pn_i12016 h (Sg_12016 (f_12016 tab)) := by
  refine px_mth hn (by decide +kernel) (fun av σ k hS => ?_) (fun C hT hC av σ k hS => ?_)
  · obtain ⟨x0, av0, e0, h0⟩ := px_r1_spec hS
    obtain ⟨ez, hz⟩ := h0
    subst ez
    subst e0
    exact Nat.le_of_ble_eq_true rfl
  · obtain ⟨x0, av0, e0, h0⟩ := px_r1_spec hS
    obtain ⟨ez, hz⟩ := h0
    subst ez
    subst e0
    subst hT
    refine px_runG (h - 1) ck_12016 [(1004, Sg_1004 (f_1004 (px_tb C))), (11013, Sg_11013 (f_11013 (px_tb C)))] [] 80 hC (px_sp1 (mf_1004 hn (by omega)) (px_sp1 (mf_11013 hn (by omega)) px_nosp)) (by omega) px_nocut (fun G Jf hG hJf => ?_)
    simp only [f_12016, oW_some, oW_none, oW_bind, oW_map, oW_ite, oW_bn, oW_gd, oW_oA, Sum.elim_inl, Sum.elim_inr, oW_and, true_and, and_true, false_and, and_false, true_or, or_true, false_or, or_false, and_self, or_self, not_false_eq_true, not_true_eq_false, false_implies, forall_const, true_implies, eq_self, ↓reduceIte] at hz
    simp only [↓hG, ↓hJf, ↓px_vc, ↓px_ex, ↓px_jp, ↓px_gi, ↓px_gl, ↓px_gr, ↓px_s1, ↓px_s2, ↓px_nl, ↓px_i1, ↓px_l1, ↓px_r1_o, ↓px_q1, ↓px_i2, ↓px_l2, ↓px_il, ↓px_d0, ↓px_d1, ↓px_d2, ↓px_pop, px_sz, ↓px_sp, ↓px_rd, ↓px_pt, ↓px_rok, ↓px_rv_o, ↓px_fill, ↓px_sl, ↓px_sw, ↓pn_SW, lc_lt, lc_ge, lc_gt, lc_le, lc_eq, ↓reduceIte, Nat.reduceEqDiff, Nat.reduceLeDiff, Nat.reduceAdd, Nat.reduceSub, reduceCtorEq, List.length_cons, List.length_nil, Option.toList_some, Option.toList_none, List.cons_append, List.nil_append, true_and, and_true, false_and, and_false, true_or, or_true, false_or, or_false, and_self, or_self, not_false_eq_true, not_true_eq_false, false_implies, forall_const, true_implies, eq_self, ↓kI_s, ↓kJ_s, ↓kN_s, ↓kO_s, ↓kZ_s, ↓kE_s, oW_and, ↓bk_12016, ↓pn_i12016, oW_some, oW_none, oW_bind, oW_map, oW_ite, oW_bn, oW_gd, oW_oA, Sum.elim_inl, Sum.elim_inr, ↓Sg_1004, ↓Sg_11013]
    exact hz
/-- NoThree.undo(I)I -/
noncomputable def f_12017 (tab : px_T) (σ : px_M) (x0 : Nat) (x1 : Int32) : Option (Int32 × px_M) := if x1 < (nI 1) then (some (((-3), σ))) else (if (nI 12) < x1 then (some (((-3), σ))) else (gd (px_obj (px_lay tab x0) 12) ((((σ).2.2 x0 0)).bind fun n1 => gd (px_obj (px_lay tab n1) 1) (if x1 ≤ ((σ).1 n1 3) then (gd (px_obj (px_lay tab x0) 12) ((((σ).2.2 x0 0)).bind fun n2 => gd (px_obj (px_lay tab n2) 1) ((f_1005 tab σ n2 x1).bind fun q3 => gd (px_obj (px_lay tab x0) 12) ((((q3).2.2 x0 0)).bind fun n4 => gd (px_obj (px_lay tab n4) 1) (some ((((q3).1 n4 3), q3))))))) else (some (((-3), σ)))))))
def Sg_12017 (g : px_M → Nat → Int32 → Option (Int32 × px_M)) : px_S := fun av σ k => px_r1 av (fun x0 av => px_i1 av (fun x1 av => av = [] ∧ oW (g σ x0 x1) (fun q => k (some (.inl q.1)) q.2)))
set_option maxHeartbeats 4000000 in
set_option maxRecDepth 100000 in
theorem mf_12017 {tab : px_T} (hn : (tab.map Prod.fst).Nodup) {h : Nat} (hh : 2 ≤ h) : px_Ok tab pn_i12017 h (Sg_12017 (f_12017 tab)) := by
  refine px_mth hn (by decide +kernel) (fun av σ k hS => ?_) (fun C hT hC av σ k hS => ?_)
  · obtain ⟨x0, av0, e0, h0⟩ := px_r1_spec hS
    obtain ⟨x1, av1, e1, h1⟩ := px_i1_spec h0
    obtain ⟨ez, hz⟩ := h1
    subst ez
    subst e1
    subst e0
    exact Nat.le_of_ble_eq_true rfl
  · obtain ⟨x0, av0, e0, h0⟩ := px_r1_spec hS
    obtain ⟨x1, av1, e1, h1⟩ := px_i1_spec h0
    obtain ⟨ez, hz⟩ := h1
    subst ez
    subst e1
    subst e0
    subst hT
    refine px_runG (h - 1) ck_12017 [(1005, Sg_1005 (f_1005 (px_tb C)))] [] 80 hC (px_sp1 (mf_1005 hn (by omega)) px_nosp) (by omega) px_nocut (fun G Jf hG hJf => ?_)
    simp only [f_12017, oW_some, oW_none, oW_bind, oW_map, oW_ite, oW_bn, oW_gd, oW_oA, Sum.elim_inl, Sum.elim_inr, oW_and, true_and, and_true, false_and, and_false, true_or, or_true, false_or, or_false, and_self, or_self, not_false_eq_true, not_true_eq_false, false_implies, forall_const, true_implies, eq_self, ↓reduceIte] at hz
    simp only [↓hG, ↓hJf, ↓px_vc, ↓px_ex, ↓px_jp, ↓px_gi, ↓px_gl, ↓px_gr, ↓px_s1, ↓px_s2, ↓px_nl, ↓px_i1, ↓px_l1, ↓px_r1_o, ↓px_q1, ↓px_i2, ↓px_l2, ↓px_il, ↓px_d0, ↓px_d1, ↓px_d2, ↓px_pop, px_sz, ↓px_sp, ↓px_rd, ↓px_pt, ↓px_rok, ↓px_rv_o, ↓px_fill, ↓px_sl, ↓px_sw, ↓pn_SW, lc_lt, lc_ge, lc_gt, lc_le, lc_eq, ↓reduceIte, Nat.reduceEqDiff, Nat.reduceLeDiff, Nat.reduceAdd, Nat.reduceSub, reduceCtorEq, List.length_cons, List.length_nil, Option.toList_some, Option.toList_none, List.cons_append, List.nil_append, true_and, and_true, false_and, and_false, true_or, or_true, false_or, or_false, and_self, or_self, not_false_eq_true, not_true_eq_false, false_implies, forall_const, true_implies, eq_self, ↓kI_s, ↓kJ_s, ↓kN_s, ↓kO_s, ↓kZ_s, ↓kE_s, oW_and, ↓bk_12017, ↓pn_i12017, oW_some, oW_none, oW_bind, oW_map, oW_ite, oW_bn, oW_gd, oW_oA, Sum.elim_inl, Sum.elim_inr, ↓Sg_1005]
    exact hz
/-- NoThree.isRow(I)Z -/
noncomputable def f_12055 (tab : px_T) (σ : px_M) (x0 : Int32) : Option (Int32) := if x0 < nI 0 then (some ((nI 0))) else (if (nI 4) ≤ x0 then (some ((nI 0))) else (some ((nI 1))))
def Sg_12055 (g : px_M → Int32 → Option (Int32)) : px_S := fun av σ k => px_i1 av (fun x0 av => av = [] ∧ oW (g σ x0) (fun r => k (some (.inl r)) σ))
set_option maxHeartbeats 4000000 in
set_option maxRecDepth 100000 in
theorem mf_12055 {tab : px_T} (hn : (tab.map Prod.fst).Nodup) {h : Nat} (hh : 1 ≤ h) : px_Ok tab pn_i12055 h (Sg_12055 (f_12055 tab)) := by
  refine px_mth hn (by decide +kernel) (fun av σ k hS => ?_) (fun C hT hC av σ k hS => ?_)
  · obtain ⟨x0, av0, e0, h0⟩ := px_i1_spec hS
    obtain ⟨ez, hz⟩ := h0
    subst ez
    subst e0
    exact Nat.le_of_ble_eq_true rfl
  · obtain ⟨x0, av0, e0, h0⟩ := px_i1_spec hS
    obtain ⟨ez, hz⟩ := h0
    subst ez
    subst e0
    subst hT
    refine px_runG (h - 1) ck_12055 [] [] 80 hC px_nosp (by omega) px_nocut (fun G Jf hG hJf => ?_)
    simp only [f_12055, oW_some, oW_none, oW_bind, oW_map, oW_ite, oW_bn, oW_gd, oW_oA, Sum.elim_inl, Sum.elim_inr, oW_and, true_and, and_true, false_and, and_false, true_or, or_true, false_or, or_false, and_self, or_self, not_false_eq_true, not_true_eq_false, false_implies, forall_const, true_implies, eq_self, ↓reduceIte] at hz
    simp only [↓hG, ↓hJf, ↓px_vc, ↓px_ex, ↓px_jp, ↓px_gi, ↓px_gl, ↓px_gr, ↓px_s1, ↓px_s2, ↓px_nl, ↓px_i1, ↓px_l1, ↓px_r1_o, ↓px_q1, ↓px_i2, ↓px_l2, ↓px_il, ↓px_d0, ↓px_d1, ↓px_d2, ↓px_pop, px_sz, ↓px_sp, ↓px_rd, ↓px_pt, ↓px_rok, ↓px_rv_o, ↓px_fill, ↓px_sl, ↓px_sw, ↓pn_SW, lc_lt, lc_ge, lc_gt, lc_le, lc_eq, ↓reduceIte, Nat.reduceEqDiff, Nat.reduceLeDiff, Nat.reduceAdd, Nat.reduceSub, reduceCtorEq, List.length_cons, List.length_nil, Option.toList_some, Option.toList_none, List.cons_append, List.nil_append, true_and, and_true, false_and, and_false, true_or, or_true, false_or, or_false, and_self, or_self, not_false_eq_true, not_true_eq_false, false_implies, forall_const, true_implies, eq_self, ↓kI_s, ↓kJ_s, ↓kN_s, ↓kO_s, ↓kZ_s, ↓kE_s, oW_and, ↓bk_12055, ↓pn_i12055, oW_some, oW_none, oW_bind, oW_map, oW_ite, oW_bn, oW_gd, oW_oA, Sum.elim_inl, Sum.elim_inr]
    exact hz
