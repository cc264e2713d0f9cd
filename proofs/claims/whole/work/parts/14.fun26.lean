/-! shallow functions, printed by wip/whole/decomp.py -/
/-- NoThree$Reader.isDigit(I)Z -/
noncomputable def f_9009 (tab : px_T) (σ : px_M) (x0 : Nat) (x1 : Int32) : Option (Int32) := gd (px_obj (px_lay tab x0) 9) ((f_9006 tab σ x0 x1).bind fun r1 => if r1 < (nI 48) then (some ((nI 0))) else (gd (px_obj (px_lay tab x0) 9) ((f_9006 tab σ x0 x1).bind fun r2 => if (nI 57) < r2 then (some ((nI 0))) else (some ((nI 1))))))
def Sg_9009 (g : px_M → Nat → Int32 → Option (Int32)) : px_S := fun av σ k => px_r1 av (fun x0 av => px_i1 av (fun x1 av => av = [] ∧ oW (g σ x0 x1) (fun r => k (some (.inl r)) σ)))
set_option maxHeartbeats 4000000 in
set_option maxRecDepth 100000 in
theorem mf_9009 {tab : px_T} (hn : (tab.map Prod.fst).Nodup) {h : Nat} (hh : 2 ≤ h) : px_Ok tab pn_i9009 h (Sg_9009 (f_9009 tab)) := by
  refine px_mth hn (by decide +kernel) (fun av σ k hS => ?_) (fun C hT hC av σ k hS => ?_)
  · obtain ⟨x0, av0, e0, h0⟩ := px_r1_spec hS
    obtain ⟨x1, av1, e1, h1⟩ := px_i1_spec h0
    obtain ⟨ez, hz⟩ := h1
    subst ez
    subst e1
    subst e0
    exact Nat.le_of_ble_eq_true rfl
  · obtain ⟨x0, av0, e0, h0⟩ := px_r1_spec hS
    obtain ⟨x1, av1, e1, h1⟩ := px_i1_spec h0
    obtain ⟨ez, hz⟩ := h1
    subst ez
    subst e1
    subst e0
    subst hT
    refine px_runG (h - 1) ck_9009 [(9006, Sg_9006 (f_9006 (px_tb C)))] [] 80 hC (px_sp1 (mf_9006 hn (by omega)) px_nosp) (by omega) px_nocut (fun G Jf hG hJf => ?_)
    simp only [f_9009, oW_some, oW_none, oW_bind, oW_map, oW_ite, oW_bn, oW_gd, oW_oA, Sum.elim_inl, Sum.elim_inr, oW_and, true_and, and_true, false_and, and_false, true_or, or_true, false_or, or_false, and_self, or_self, not_false_eq_true, not_true_eq_false, false_implies, forall_const, true_implies, eq_self, ↓reduceIte] at hz
    simp only [↓hG, ↓hJf, ↓px_vc, ↓px_ex, ↓px_jp, ↓px_gi, ↓px_gl, ↓px_gr, ↓px_s1, ↓px_s2, ↓px_nl, ↓px_i1, ↓px_l1, ↓px_r1_o, ↓px_q1, ↓px_i2, ↓px_l2, ↓px_il, ↓px_d0, ↓px_d1, ↓px_d2, ↓px_pop, px_sz, ↓px_sp, ↓px_rd, ↓px_pt, ↓px_rok, ↓px_rv_o, ↓px_fill, ↓px_sl, ↓px_sw, ↓pn_SW, lc_lt, lc_ge, lc_gt, lc_le, lc_eq, ↓reduceIte, Nat.reduceEqDiff, Nat.reduceLeDiff, Nat.reduceAdd, Nat.reduceSub, reduceCtorEq, List.length_cons, List.length_nil, Option.toList_some, Option.toList_none, List.cons_append, List.nil_append, true_and, and_true, false_and, and_false, true_or, or_true, false_or, or_false, and_self, or_self, not_false_eq_true, not_true_eq_false, false_implies, forall_const, true_implies, eq_self, ↓kI_s, ↓kJ_s, ↓kN_s, ↓kO_s, ↓kZ_s, ↓kE_s, oW_and, ↓bk_9009, ↓pn_i9009, oW_some, oW_none, oW_bind, oW_map, oW_ite, oW_bn, oW_gd, oW_oA, Sum.elim_inl, Sum.elim_inr, ↓Sg_9006]
    exact hz
/-- NoThree$Reader.endOfToken(I)I -/
noncomputable def F_9010_42 (tab : px_T) (σ : px_M) (x0 : Nat) (x2 : Int32) : Option ((Int32) ⊕ (Int32)) := gd (px_obj (px_lay tab x0) 9) (if ((σ).1 x0 7) ≤ x2 then (some (.inr (x2))) else (gd (px_obj (px_lay tab x0) 9) ((f_9009 tab σ x0 x2).bind fun r1 => if r1 = nI 0 then (some (.inr (x2))) else (some (.inl ((x2 + (nI 1))))))))
noncomputable def f_9010_42 (tab : px_T) (σ : px_M) (x0 : Nat) (x2 : Int32) : Option (Int32) := lpO (fun s : Int32 => F_9010_42 tab σ x0 s) x2
theorem f_9010_42_eq (tab : px_T) (σ : px_M) (x0 : Nat) (x2 : Int32) : f_9010_42 tab σ x0 x2 = (F_9010_42 tab σ x0 x2).bind (Sum.elim (fun s => f_9010_42 tab σ x0 s) some) := lpO_eq _ _
noncomputable def F_9010_12 (tab : px_T) (σ : px_M) (x0 : Nat) (x2 : Int32) : Option ((Int32) ⊕ (Int32)) := gd (px_obj (px_lay tab x0) 9) (if ((σ).1 x0 7) ≤ x2 then (some (.inr (x2))) else (gd (px_obj (px_lay tab x0) 9) ((f_9008 tab σ x0 x2).bind fun r1 => if r1 = nI 0 then (some (.inr (x2))) else (some (.inl ((x2 + (nI 1))))))))
noncomputable def f_9010_12 (tab : px_T) (σ : px_M) (x0 : Nat) (x2 : Int32) : Option (Int32) := lpO (fun s : Int32 => F_9010_12 tab σ x0 s) x2
theorem f_9010_12_eq (tab : px_T) (σ : px_M) (x0 : Nat) (x2 : Int32) : f_9010_12 tab σ x0 x2 = (F_9010_12 tab σ x0 x2).bind (Sum.elim (fun s => f_9010_12 tab σ x0 s) some) := lpO_eq _ _
noncomputable def f_9010 (tab : px_T) (σ : px_M) (x0 : Nat) (x1 : Int32) : Option (Int32) := gd (px_obj (px_lay tab x0) 9) ((f_9008 tab σ x0 x1).bind fun r1 => if r1 = nI 0 then (gd (px_obj (px_lay tab x0) 9) ((f_9009 tab σ x0 x1).bind fun r2 => if r2 = nI 0 then (some ((x1 + (nI 1)))) else (f_9010_42 tab σ x0 ((x1 + (nI 1)))))) else (f_9010_12 tab σ x0 ((x1 + (nI 1)))))
def Sg_9010 (g : px_M → Nat → Int32 → Option (Int32)) : px_S := fun av σ k => px_r1 av (fun x0 av => px_i1 av (fun x1 av => av = [] ∧ oW (g σ x0 x1) (fun r => k (some (.inl r)) σ)))
def kp_9010_42 (Q : Nat → Int32 → px_M → Prop) : px_P := fun ls st τ => st = [] ∧ kN ls (fun x0 ls => kZ ls (fun ls => kI ls (fun x2 ls => kE ls (Q x0 x2 τ))))
theorem kq_9010_42 {C : px_C} {k : Option px_V → px_M → Prop} {Q : Nat → Int32 → px_M → Prop} (H : ∀ (x0 : Nat) (x2 : Int32) (τ : px_M), Q x0 x2 τ → ∀ (z1 : Option px_V), px_W C k 42 [some (.inr (.inr (some x0))), z1, some (.inl x2)] [] τ) : ∀ ls st τ, kp_9010_42 Q ls st τ → px_W C k 42 ls st τ := by
  intro ls st τ hz
  obtain ⟨ez, h0⟩ := hz
  obtain ⟨x0, l0, e0, h1⟩ := kN_sp h0
  obtain ⟨z1, l1, e1, h2⟩ := kZ_sp h1
  obtain ⟨x2, l2, e2, h3⟩ := kI_sp h2
  obtain ⟨ey, hy⟩ := kE_sp h3
  subst ez
  subst ey
  subst e2
  subst e1
  subst e0
  exact H x0 x2 τ hy z1
def kp_9010_12 (Q : Nat → Int32 → px_M → Prop) : px_P := fun ls st τ => st = [] ∧ kN ls (fun x0 ls => kZ ls (fun ls => kI ls (fun x2 ls => kE ls (Q x0 x2 τ))))
theorem kq_9010_12 {C : px_C} {k : Option px_V → px_M → Prop} {Q : Nat → Int32 → px_M → Prop} (H : ∀ (x0 : Nat) (x2 : Int32) (τ : px_M), Q x0 x2 τ → ∀ (z1 : Option px_V), px_W C k 12 [some (.inr (.inr (some x0))), z1, some (.inl x2)] [] τ) : ∀ ls st τ, kp_9010_12 Q ls st τ → px_W C k 12 ls st τ := by
  intro ls st τ hz
  obtain ⟨ez, h0⟩ := hz
  obtain ⟨x0, l0, e0, h1⟩ := kN_sp h0
  obtain ⟨z1, l1, e1, h2⟩ := kZ_sp h1
  obtain ⟨x2, l2, e2, h3⟩ := kI_sp h2
  obtain ⟨ey, hy⟩ := kE_sp h3
  subst ez
  subst ey
  subst e2
  subst e1
  subst e0
  exact H x0 x2 τ hy z1
set_option maxHeartbeats 4000000 in
set_option maxRecDepth 100000 in
theorem rl_9010_42 {C : px_C} (hn : ((px_tb C).map Prod.fst).Nodup) {h : Nat} (hh : 3 ≤ h) (hC : px_ok C pn_i9010 h) {k : Option px_V → px_M → Prop} {x0 : Nat} {σ : px_M} : ∀ s : Int32, oW (f_9010_42 (px_tb C) σ x0 s) (fun r => k (some (.inl r)) σ) → (fun s : Int32 => ∀ (z1 : Option px_V), px_W C k 42 [some (.inr (.inr (some x0))), z1, some (.inl s)] [] σ) s := by
  intro s h0
  refine lpO_sound (P := (fun s : Int32 => ∀ (z1 : Option px_V), px_W C k 42 [some (.inr (.inr (some x0))), z1, some (.inl s)] [] σ)) (fun s hs => ?_) h0
  revert hs
  generalize s = x2
  intro hs
  intro z1
  refine px_runG (h - 1) ck_9010 [(9009, Sg_9009 (f_9009 (px_tb C)))] [(42, kp_9010_42 (fun y0 y2 τ => y0 = x0 ∧ τ = σ ∧ (fun s : Int32 => ∀ (z1 : Option px_V), px_W C k 42 [some (.inr (.inr (some x0))), z1, some (.inl s)] [] σ) y2))] 80 hC (px_sp1 (mf_9009 hn (by omega)) px_nosp) (by omega) (px_cut1 (kq_9010_42 (fun y0 y2 τ hq => by obtain ⟨rfl, rfl, hq⟩ := hq; exact hq)) px_nocut) (fun G Jf hG hJf => ?_)
  simp only [F_9010_42, oW_some, oW_none, oW_bind, oW_map, oW_ite, oW_bn, oW_gd, oW_oA, Sum.elim_inl, Sum.elim_inr, oW_and, true_and, and_true, false_and, and_false, true_or, or_true, false_or, or_false, and_self, or_self, not_false_eq_true, not_true_eq_false, false_implies, forall_const, true_implies, eq_self, ↓reduceIte] at hs
  simp only [↓hG, ↓hJf, ↓px_vc, ↓px_ex, ↓px_jp, ↓px_gi, ↓px_gl, ↓px_gr, ↓px_s1, ↓px_s2, ↓px_nl, ↓px_i1, ↓px_l1, ↓px_r1_o, ↓px_q1, ↓px_i2, ↓px_l2, ↓px_il, ↓px_d0, ↓px_d1, ↓px_d2, ↓px_pop, px_sz, ↓px_sp, ↓px_rd, ↓px_pt, ↓px_rok, ↓px_rv_o, ↓px_fill, ↓px_sl, ↓px_sw, ↓pn_SW, lc_lt, lc_ge, lc_gt, lc_le, lc_eq, ↓reduceIte, Nat.reduceEqDiff, Nat.reduceLeDiff, Nat.reduceAdd, Nat.reduceSub, reduceCtorEq, List.length_cons, List.length_nil, Option.toList_some, Option.toList_none, List.cons_append, List.nil_append, true_and, and_true, false_and, and_false, true_or, or_true, false_or, or_false, and_self, or_self, not_false_eq_true, not_true_eq_false, false_implies, forall_const, true_implies, eq_self, ↓kI_s, ↓kJ_s, ↓kN_s, ↓kO_s, ↓kZ_s, ↓kE_s, oW_and, ↓bk_9010, ↓pn_i9010, oW_some, oW_none, oW_bind, oW_map, oW_ite, oW_bn, oW_gd, oW_oA, Sum.elim_inl, Sum.elim_inr, ↓Sg_9009, ↓kp_9010_42]
  exact hs
set_option maxHeartbeats 4000000 in
set_option maxRecDepth 100000 in
theorem rl_9010_12 {C : px_C} (hn : ((px_tb C).map Prod.fst).Nodup) {h : Nat} (hh : 3 ≤ h) (hC : px_ok C pn_i9010 h) {k : Option px_V → px_M → Prop} {x0 : Nat} {σ : px_M} : ∀ s : Int32, oW (f_9010_12 (px_tb C) σ x0 s) (fun r => k (some (.inl r)) σ) → (fun s : Int32 => ∀ (z1 : Option px_V), px_W C k 12 [some (.inr (.inr (some x0))), z1, some (.inl s)] [] σ) s := by
  intro s h0
  refine lpO_sound (P := (fun s : Int32 => ∀ (z1 : Option px_V), px_W C k 12 [some (.inr (.inr (some x0))), z1, some (.inl s)] [] σ)) (fun s hs => ?_) h0
  revert hs
  generalize s = x2
  intro hs
  intro z1
  refine px_runG (h - 1) ck_9010 [(9008, Sg_9008 (f_9008 (px_tb C)))] [(12, kp_9010_12 (fun y0 y2 τ => y0 = x0 ∧ τ = σ ∧ (fun s : Int32 => ∀ (z1 : Option px_V), px_W C k 12 [some (.inr (.inr (some x0))), z1, some (.inl s)] [] σ) y2))] 80 hC (px_sp1 (mf_9008 hn (by omega)) px_nosp) (by omega) (px_cut1 (kq_9010_12 (fun y0 y2 τ hq => by obtain ⟨rfl, rfl, hq⟩ := hq; exact hq)) px_nocut) (fun G Jf hG hJf => ?_)
  simp only [F_9010_12, oW_some, oW_none, oW_bind, oW_map, oW_ite, oW_bn, oW_gd, oW_oA, Sum.elim_inl, Sum.elim_inr, oW_and, true_and, and_true, false_and, and_false, true_or, or_true, false_or, or_false, and_self, or_self, not_false_eq_true, not_true_eq_false, false_implies, forall_const, true_implies, eq_self, ↓reduceIte] at hs
  simp only [↓hG, ↓hJf, ↓px_vc, ↓px_ex, ↓px_jp, ↓px_gi, ↓px_gl, ↓px_gr, ↓px_s1, ↓px_s2, ↓px_nl, ↓px_i1, ↓px_l1, ↓px_r1_o, ↓px_q1, ↓px_i2, ↓px_l2, ↓px_il, ↓px_d0, ↓px_d1, ↓px_d2, ↓px_pop, px_sz, ↓px_sp, ↓px_rd, ↓px_pt, ↓px_rok, ↓px_rv_o, ↓px_fill, ↓px_sl, ↓px_sw, ↓pn_SW, lc_lt, lc_ge, lc_gt, lc_le, lc_eq, ↓reduceIte, Nat.reduceEqDiff, Nat.reduceLeDiff, Nat.reduceAdd, Nat.reduceSub, reduceCtorEq, List.length_cons, List.length_nil, Option.toList_some, Option.toList_none, List.cons_append, List.nil_append, true_and, and_true, false_and, and_false, true_or, or_true, false_or, or_false, and_self, or_self, not_false_eq_true, not_true_eq_false, false_implies, forall_const, true_implies, eq_self, ↓kI_s, ↓kJ_s, ↓kN_s, ↓kO_s, ↓kZ_s, ↓kE_s, oW_and, ↓bk_9010, ↓pn_i9010, oW_some, oW_none, oW_bind, oW_map, oW_ite, oW_bn, oW_gd, oW_oA, Sum.elim_inl, Sum.elim_inr, ↓Sg_9008, ↓kp_9010_12]
  exact hs
set_option maxHeartbeats 4000000 in
set_option maxRecDepth 100000 in
theorem mf_9010 {tab : px_T} (hn : (tab.map Prod.fst).Nodup) {h : Nat} (hh : 3 ≤ h) : px_Ok tab pn_i9010 h (Sg_9010 (f_9010 tab)) := by
  refine px_mth hn (by decide +kernel) (fun av σ k hS => ?_) (fun C hT hC av σ k hS => ?_)
  · obtain ⟨x0, av0, e0, h0⟩ := px_r1_spec hS
    obtain ⟨x1, av1, e1, h1⟩ := px_i1_spec h0
    obtain ⟨ez, hz⟩ := h1
    subst ez
    subst e1
    subst e0
    exact Nat.le_of_ble_eq_true rfl
  · obtain ⟨x0, av0, e0, h0⟩ := px_r1_spec hS
    obtain ⟨x1, av1, e1, h1⟩ := px_i1_spec h0
    obtain ⟨ez, hz⟩ := h1
    subst ez
    subst e1
    subst e0
    subst hT
    refine px_runG (h - 1) ck_9010 [(9008, Sg_9008 (f_9008 (px_tb C))), (9009, Sg_9009 (f_9009 (px_tb C)))] [(12, kp_9010_12 (fun y0 y2 τ => τ = σ ∧ oW (f_9010_12 (px_tb C) τ y0 y2) (fun r => k (some (.inl r)) σ))), (42, kp_9010_42 (fun y0 y2 τ => τ = σ ∧ oW (f_9010_42 (px_tb C) τ y0 y2) (fun r => k (some (.inl r)) σ)))] 80 hC (px_sp1 (mf_9008 hn (by omega)) (px_sp1 (mf_9009 hn (by omega)) px_nosp)) (by omega) (px_cut1 (kq_9010_12 (fun y0 y2 τ hq => by obtain ⟨rfl, hq⟩ := hq; exact rl_9010_12 hn (by omega) hC y2 hq)) (px_cut1 (kq_9010_42 (fun y0 y2 τ hq => by obtain ⟨rfl, hq⟩ := hq; exact rl_9010_42 hn (by omega) hC y2 hq)) px_nocut)) (fun G Jf hG hJf => ?_)
    simp only [f_9010, oW_some, oW_none, oW_bind, oW_map, oW_ite, oW_bn, oW_gd, oW_oA, Sum.elim_inl, Sum.elim_inr, oW_and, true_and, and_true, false_and, and_false, true_or, or_true, false_or, or_false, and_self, or_self, not_false_eq_true, not_true_eq_false, false_implies, forall_const, true_implies, eq_self, ↓reduceIte] at hz
    simp only [↓hG, ↓hJf, ↓px_vc, ↓px_ex, ↓px_jp, ↓px_gi, ↓px_gl, ↓px_gr, ↓px_s1, ↓px_s2, ↓px_nl, ↓px_i1, ↓px_l1, ↓px_r1_o, ↓px_q1, ↓px_i2, ↓px_l2, ↓px_il, ↓px_d0, ↓px_d1, ↓px_d2, ↓px_pop, px_sz, ↓px_sp, ↓px_rd, ↓px_pt, ↓px_rok, ↓px_rv_o, ↓px_fill, ↓px_sl, ↓px_sw, ↓pn_SW, lc_lt, lc_ge, lc_gt, lc_le, lc_eq, ↓reduceIte, Nat.reduceEqDiff, Nat.reduceLeDiff, Nat.reduceAdd, Nat.reduceSub, reduceCtorEq, List.length_cons, List.length_nil, Option.toList_some, Option.toList_none, List.cons_append, List.nil_append, true_and, and_true, false_and, and_false, true_or, or_true, false_or, or_false, and_self, or_self, not_false_eq_true, not_true_eq_false, false_implies, forall_const, true_implies, eq_self, ↓kI_s, ↓kJ_s, ↓kN_s, ↓kO_s, ↓kZ_s, ↓kE_s, oW_and, ↓bk_9010, ↓pn_i9010, oW_some, oW_none, oW_bind, oW_map, oW_ite, oW_bn, oW_gd, oW_oA, Sum.elim_inl, Sum.elim_inr, ↓Sg_9008, ↓Sg_9009, ↓kp_9010_12, ↓kp_9010_42]
    exact hz
/-- NoThree$Reader.blame(I)Z -/
noncomputable def f_9018 (tab : px_T) (σ : px_M) (x0 : Nat) (x1 : Int32) : Option (Int32 × px_M) := gd (px_obj (px_lay tab x0) 9) (bn (((σ).1 x0 1) = nI 0) (some (((nI 0), σ))) (bn (x1 = (nI 2)) (gd (px_obj (px_lay tab x0) 9) (gd (px_obj (px_lay tab x0) 9) (gd (px_obj (px_lay tab x0) 9) (((((px_wi σ x0 1 x1)).2.2 x0 6)).bind fun n1 => oA (px_lay tab n1) fun t2 l3 => gd (t2 = 0) (gd (vp_in (((px_wi σ x0 1 x1)).1 x0 8) l3) (gd (px_obj (px_lay tab x0) 9) (some (((nI 0), (px_wi (px_wi σ x0 1 x1) x0 2 (((px_wi σ x0 1 x1)).1 n1 ((((px_wi σ x0 1 x1)).1 x0 8)).toNatClampNeg))))))))))) (gd (px_obj (px_lay tab x0) 9) (bn (((σ).1 x0 9) = (nI 3004)) (gd (px_obj (px_lay tab x0) 9) (gd (px_obj (px_lay tab x0) 9) (gd (px_obj (px_lay tab x0) 9) (((((px_wi σ x0 1 x1)).2.2 x0 6)).bind fun n4 => oA (px_lay tab n4) fun t5 l6 => gd (t5 = 0) (gd (vp_in (((px_wi σ x0 1 x1)).1 x0 8) l6) (gd (px_obj (px_lay tab x0) 9) (some (((nI 0), (px_wi (px_wi σ x0 1 x1) x0 2 (((px_wi σ x0 1 x1)).1 n4 ((((px_wi σ x0 1 x1)).1 x0 8)).toNatClampNeg))))))))))) (gd (px_obj (px_lay tab x0) 9) (gd (px_obj (px_lay tab x0) 9) (gd (px_obj (px_lay tab x0) 9) (((((px_wi σ x0 1 (nI 1))).2.2 x0 6)).bind fun n7 => oA (px_lay tab n7) fun t8 l9 => gd (t8 = 0) (gd (vp_in (((px_wi σ x0 1 (nI 1))).1 x0 8) l9) (gd (px_obj (px_lay tab x0) 9) (some (((nI 0), (px_wi (px_wi σ x0 1 (nI 1)) x0 2 (((px_wi σ x0 1 (nI 1))).1 n7 ((((px_wi σ x0 1 (nI 1))).1 x0 8)).toNatClampNeg)))))))))))))))
def Sg_9018 (g : px_M → Nat → Int32 → Option (Int32 × px_M)) : px_S := fun av σ k => px_r1 av (fun x0 av => px_i1 av (fun x1 av => av = [] ∧ oW (g σ x0 x1) (fun q => k (some (.inl q.1)) q.2)))
set_option maxHeartbeats 4000000 in
set_option maxRecDepth 100000 in
theorem mf_9018 {tab : px_T} (hn : (tab.map Prod.fst).Nodup) {h : Nat} (hh : 1 ≤ h) : px_Ok tab pn_i9018 h (Sg_9018 (f_9018 tab)) := by
  refine px_mth hn (by decide +kernel) (fun av σ k hS => ?_) (fun C hT hC av σ k hS => ?_)
  · obtain ⟨x0, av0, e0, h0⟩ := px_r1_spec hS
    obtain ⟨x1, av1, e1, h1⟩ := px_i1_spec h0
    obtain ⟨ez, hz⟩ := h1
    subst ez
    subst e1
    subst e0
    exact Nat.le_of_ble_eq_true rfl
  · obtain ⟨x0, av0, e0, h0⟩ := px_r1_spec hS
    obtain ⟨x1, av1, e1, h1⟩ := px_i1_spec h0
    obtain ⟨ez, hz⟩ := h1
    subst ez
    subst e1
    subst e0
    subst hT
    refine px_runG (h - 1) ck_9018 [] [] 80 hC px_nosp (by omega) px_nocut (fun G Jf hG hJf => ?_)
    simp only [f_9018, oW_some, oW_none, oW_bind, oW_map, oW_ite, oW_bn, oW_gd, oW_oA, Sum.elim_inl, Sum.elim_inr, oW_and, true_and, and_true, false_and, and_false, true_or, or_true, false_or, or_false, and_self, or_self, not_false_eq_true, not_true_eq_false, false_implies, forall_const, true_implies, eq_self, ↓reduceIte] at hz
    simp only [↓hG, ↓hJf, ↓px_vc, ↓px_ex, ↓px_jp, ↓px_gi, ↓px_gl, ↓px_gr, ↓px_s1, ↓px_s2, ↓px_nl, ↓px_i1, ↓px_l1, ↓px_r1_o, ↓px_q1, ↓px_i2, ↓px_l2, ↓px_il, ↓px_d0, ↓px_d1, ↓px_d2, ↓px_pop, px_sz, ↓px_sp, ↓px_rd, ↓px_pt, ↓px_rok, ↓px_rv_o, ↓px_fill, ↓px_sl, ↓px_sw, ↓pn_SW, lc_lt, lc_ge, lc_gt, lc_le, lc_eq, ↓reduceIte, Nat.reduceEqDiff, Nat.reduceLeDiff, Nat.reduceAdd, Nat.reduceSub, reduceCtorEq, List.length_cons, List.length_nil, Option.toList_some, Option.toList_none, List.cons_append, List.nil_append, true_and, and_true, false_and, and_false, true_or, or_true, false_or, or_false, and_self, or_self, not_false_eq_true, not_true_eq_false, false_implies, forall_const, true_implies, eq_self, ↓kI_s, ↓kJ_s, ↓kN_s, ↓kO_s, ↓kZ_s, ↓kE_s, oW_and, ↓bk_9018, ↓pn_i9018, oW_some, oW_none, oW_bind, oW_map, oW_ite, oW_bn, oW_gd, oW_oA, Sum.elim_inl, Sum.elim_inr]
    exact hz
/-- NoThree$Reader.advance()V -/
noncomputable def f_9015 (tab : px_T) (σ : px_M) (x0 : Nat) : Option (px_M) := gd (px_obj (px_lay tab x0) 9) (if (nI 900) ≤ ((σ).1 x0 8) then (some (σ)) else (gd (px_obj (px_lay tab x0) 9) (if ((σ).1 x0 9) = (nI 3005) then (some (σ)) else (gd (px_obj (px_lay tab x0) 9) (gd (px_obj (px_lay tab x0) 9) (gd (px_obj (px_lay tab x0) 9) (gd (px_obj (px_lay tab x0) 9) (((((px_wi σ x0 8 (((σ).1 x0 8) + (nI 1)))).2.2 x0 5)).bind fun n1 => oA (px_lay tab n1) fun t2 l3 => gd (t2 = 0) (gd (vp_in (((px_wi σ x0 8 (((σ).1 x0 8) + (nI 1)))).1 x0 8) l3) (gd (px_obj (px_lay tab x0) 9) (some ((px_wi (px_wi σ x0 8 (((σ).1 x0 8) + (nI 1))) x0 9 (((px_wi σ x0 8 (((σ).1 x0 8) + (nI 1)))).1 n1 ((((px_wi σ x0 8 (((σ).1 x0 8) + (nI 1)))).1 x0 8)).toNatClampNeg))))))))))))))
def Sg_9015 (g : px_M → Nat → Option (px_M)) : px_S := fun av σ k => px_r1 av (fun x0 av => av = [] ∧ oW (g σ x0) (fun τ => k none τ))
set_option maxHeartbeats 4000000 in
set_option maxRecDepth 100000 in
theorem mf_9015 {tab : px_T} (hn : (tab.map Prod.fst).Nodup) {h : Nat} (hh : 1 ≤ h) : px_Ok tab pn_i9015 h (Sg_9015 (f_9015 tab)) := by
  refine px_mth hn (by decide +kernel) (fun av σ k hS => ?_) (fun C hT hC av σ k hS => ?_)
  · obtain ⟨x0, av0, e0, h0⟩ := px_r1_spec hS
    obtain ⟨ez, hz⟩ := h0
    subst ez
    subst e0
    exact Nat.le_of_ble_eq_true rfl
  · obtain ⟨x0, av0, e0, h0⟩ := px_r1_spec hS
    obtain ⟨ez, hz⟩ := h0
    subst ez
    subst e0
    subst hT
    refine px_runG (h - 1) ck_9015 [] [] 80 hC px_nosp (by omega) px_nocut (fun G Jf hG hJf => ?_)
    simp only [f_9015, oW_some, oW_none, oW_bind, oW_map, oW_ite, oW_bn, oW_gd, oW_oA, Sum.elim_inl, Sum.elim_inr, oW_and, true_and, and_true, false_and, and_false, true_or, or_true, false_or, or_false, and_self, or_self, not_false_eq_true, not_true_eq_false, false_implies, forall_const, true_implies, eq_self, ↓reduceIte] at hz
    simp only [↓hG, ↓hJf, ↓px_vc, ↓px_ex, ↓px_jp, ↓px_gi, ↓px_gl, ↓px_gr, ↓px_s1, ↓px_s2, ↓px_nl, ↓px_i1, ↓px_l1, ↓px_r1_o, ↓px_q1, ↓px_i2, ↓px_l2, ↓px_il, ↓px_d0, ↓px_d1, ↓px_d2, ↓px_pop, px_sz, ↓px_sp, ↓px_rd, ↓px_pt, ↓px_rok, ↓px_rv_o, ↓px_fill, ↓px_sl, ↓px_sw, ↓pn_SW, lc_lt, lc_ge, lc_gt, lc_le, lc_eq, ↓reduceIte, Nat.reduceEqDiff, Nat.reduceLeDiff, Nat.reduceAdd, Nat.reduceSub, reduceCtorEq, List.length_cons, List.length_nil, Option.toList_some, Option.toList_none, List.cons_append, List.nil_append, true_and, and_true, false_and, and_false, true_or, or_true, false_or, or_false, and_self, or_self, not_false_eq_true, not_true_eq_false, false_implies, forall_const, true_implies, eq_self, ↓kI_s, ↓kJ_s, ↓kN_s, ↓kO_s, ↓kZ_s, ↓kE_s, oW_and, ↓bk_9015, ↓pn_i9015, oW_some, oW_none, oW_bind, oW_map, oW_ite, oW_bn, oW_gd, oW_oA, Sum.elim_inl, Sum.elim_inr]
    exact hz
/-- NoThree$Reader.pass(I)Z -/
noncomputable def f_9019 (tab : px_T) (σ : px_M) (x0 : Nat) (x1 : Int32) : Option (Int32 × px_M) := gd (px_obj (px_lay tab x0) 9) (if ((σ).1 x0 9) = x1 then (gd (px_obj (px_lay tab x0) 9) ((f_9015 tab σ x0).bind fun q1 => some (((nI 1), q1)))) else (gd (px_obj (px_lay tab x0) 9) ((f_9018 tab σ x0 ((nI 2))).bind fun q2 => gd (q2.1 = nI 0 ∨ q2.1 = nI 1) (some ((q2.1, q2.2))))))
def Sg_9019 (g : px_M → Nat → Int32 → Option (Int32 × px_M)) : px_S := fun av σ k => px_r1 av (fun x0 av => px_i1 av (fun x1 av => av = [] ∧ oW (g σ x0 x1) (fun q => k (some (.inl q.1)) q.2)))
set_option maxHeartbeats 4000000 in
set_option maxRecDepth 100000 in
theorem mf_9019 {tab : px_T} (hn : (tab.map Prod.fst).Nodup) {h : Nat} (hh : 2 ≤ h) : px_Ok tab pn_i9019 h (Sg_9019 (f_9019 tab)) := by
  refine px_mth hn (by decide +kernel) (fun av σ k hS => ?_) (fun C hT hC av σ k hS => ?_)
  · obtain ⟨x0, av0, e0, h0⟩ := px_r1_spec hS
    obtain ⟨x1, av1, e1, h1⟩ := px_i1_spec h0
    obtain ⟨ez, hz⟩ := h1
    subst ez
    subst e1
    subst e0
    exact Nat.le_of_ble_eq_true rfl
  · obtain ⟨x0, av0, e0, h0⟩ := px_r1_spec hS
    obtain ⟨x1, av1, e1, h1⟩ := px_i1_spec h0
    obtain ⟨ez, hz⟩ := h1
    subst ez
    subst e1
    subst e0
    subst hT
    refine px_runG (h - 1) ck_9019 [(9015, Sg_9015 (f_9015 (px_tb C))), (9018, Sg_9018 (f_9018 (px_tb C)))] [] 80 hC (px_sp1 (mf_9015 hn (by omega)) (px_sp1 (mf_9018 hn (by omega)) px_nosp)) (by omega) px_nocut (fun G Jf hG hJf => ?_)
    simp only [f_9019, oW_some, oW_none, oW_bind, oW_map, oW_ite, oW_bn, oW_gd, oW_oA, Sum.elim_inl, Sum.elim_inr, oW_and, true_and, and_true, false_and, and_false, true_or, or_true, false_or, or_false, and_self, or_self, not_false_eq_true, not_true_eq_false, false_implies, forall_const, true_implies, eq_self, ↓reduceIte] at hz
    simp only [↓hG, ↓hJf, ↓px_vc, ↓px_ex, ↓px_jp, ↓px_gi, ↓px_gl, ↓px_gr, ↓px_s1, ↓px_s2, ↓px_nl, ↓px_i1, ↓px_l1, ↓px_r1_o, ↓px_q1, ↓px_i2, ↓px_l2, ↓px_il, ↓px_d0, ↓px_d1, ↓px_d2, ↓px_pop, px_sz, ↓px_sp, ↓px_rd, ↓px_pt, ↓px_rok, ↓px_rv_o, ↓px_fill, ↓px_sl, ↓px_sw, ↓pn_SW, lc_lt, lc_ge, lc_gt, lc_le, lc_eq, ↓reduceIte, Nat.reduceEqDiff, Nat.reduceLeDiff, Nat.reduceAdd, Nat.reduceSub, reduceCtorEq, List.length_cons, List.length_nil, Option.toList_some, Option.toList_none, List.cons_append, List.nil_append, true_and, and_true, false_and, and_false, true_or, or_true, false_or, or_false, and_self, or_self, not_false_eq_true, not_true_eq_false, false_implies, forall_const, true_implies, eq_self, ↓kI_s, ↓kJ_s, ↓kN_s, ↓kO_s, ↓kZ_s, ↓kE_s, oW_and, ↓bk_9019, ↓pn_i9019, oW_some, oW_none, oW_bind, oW_map, oW_ite, oW_bn, oW_gd, oW_oA, Sum.elim_inl, Sum.elim_inr, ↓Sg_9015, ↓Sg_9018]
    exact hz
/-- NoThree$Reader.isNumber()Z -/
noncomputable def f_9016 (tab : px_T) (σ : px_M) (x0 : Nat) : Option (Int32) := gd (px_obj (px_lay tab x0) 9) (if (nI 1000) ≤ ((σ).1 x0 9) then (some ((nI 0))) else (some ((nI 1))))
def Sg_9016 (g : px_M → Nat → Option (Int32)) : px_S := fun av σ k => px_r1 av (fun x0 av => av = [] ∧ oW (g σ x0) (fun r => k (some (.inl r)) σ))
set_option maxHeartbeats 4000000 in
set_option maxRecDepth 100000 in
theorem mf_9016 {tab : px_T} (hn : (tab.map Prod.fst).Nodup) {h : Nat} (hh : 1 ≤ h) : px_Ok tab pn_i9016 h (Sg_9016 (f_9016 tab)) := by
  refine px_mth hn (by decide +kernel) (fun av σ k hS => ?_) (fun C hT hC av σ k hS => ?_)
  · obtain ⟨x0, av0, e0, h0⟩ := px_r1_spec hS
    obtain ⟨ez, hz⟩ := h0
    subst ez
    subst e0
    exact Nat.le_of_ble_eq_true rfl
  · obtain ⟨x0, av0, e0, h0⟩ := px_r1_spec hS
    obtain ⟨ez, hz⟩ := h0
    subst ez
    subst e0
    subst hT
    refine px_runG (h - 1) ck_9016 [] [] 80 hC px_nosp (by omega) px_nocut (fun G Jf hG hJf => ?_)
    simp only [f_9016, oW_some, oW_none, oW_bind, oW_map, oW_ite, oW_bn, oW_gd, oW_oA, Sum.elim_inl, Sum.elim_inr, oW_and, true_and, and_true, false_and, and_false, true_or, or_true, false_or, or_false, and_self, or_self, not_false_eq_true, not_true_eq_false, false_implies, forall_const, true_implies, eq_self, ↓reduceIte] at hz
    simp only [↓hG, ↓hJf, ↓px_vc, ↓px_ex, ↓px_jp, ↓px_gi, ↓px_gl, ↓px_gr, ↓px_s1, ↓px_s2, ↓px_nl, ↓px_i1, ↓px_l1, ↓px_r1_o, ↓px_q1, ↓px_i2, ↓px_l2, ↓px_il, ↓px_d0, ↓px_d1, ↓px_d2, ↓px_pop, px_sz, ↓px_sp, ↓px_rd, ↓px_pt, ↓px_rok, ↓px_rv_o, ↓px_fill, ↓px_sl, ↓px_sw, ↓pn_SW, lc_lt, lc_ge, lc_gt, lc_le, lc_eq, ↓reduceIte, Nat.reduceEqDiff, Nat.reduceLeDiff, Nat.reduceAdd, Nat.reduceSub, reduceCtorEq, List.length_cons, List.length_nil, Option.toList_some, Option.toList_none, List.cons_append, List.nil_append, true_and, and_true, false_and, and_false, true_or, or_true, false_or, or_false, and_self, or_self, not_false_eq_true, not_true_eq_false, false_implies, forall_const, true_implies, eq_self, ↓kI_s, ↓kJ_s, ↓kN_s, ↓kO_s, ↓kZ_s, ↓kE_s, oW_and, ↓bk_9016, ↓pn_i9016, oW_some, oW_none, oW_bind, oW_map, oW_ite, oW_bn, oW_gd, oW_oA, Sum.elim_inl, Sum.elim_inr]
    exact hz
/-- NoThree$Reader.readHouses()Z -/
noncomputable def F_9021_64 (tab : px_T) (x0 : Nat) (x1 : Int32) (x2 : Int32) (σ : px_M) : Option ((Int32 × px_M) ⊕ (Int32 × px_M)) := if x1 ≤ x2 then (gd (px_obj (px_lay tab x0) 9) ((f_9015 tab σ x0).bind fun q1 => some (.inr (((nI 1), q1))))) else (gd (px_obj (px_lay tab x0) 9) ((((σ).2.2 x0 3)).bind fun n2 => gd (px_obj (px_lay tab n2) 1) ((((σ).2.2 n2 0)).bind fun n3 => gd (px_obj (px_lay tab n3) 11) ((f_11011 tab σ n3 ((nI 0))).bind fun q4 => some (.inl (((x2 + (nI 1)), q4)))))))
noncomputable def f_9021_64 (tab : px_T) (x0 : Nat) (x1 : Int32) (x2 : Int32) (σ : px_M) : Option (Int32 × px_M) := lpO (fun s : Int32 × px_M => F_9021_64 tab x0 x1 s.1 s.2) (x2, σ)
theorem f_9021_64_eq (tab : px_T) (x0 : Nat) (x1 : Int32) (x2 : Int32) (σ : px_M) : f_9021_64 tab x0 x1 x2 σ = (F_9021_64 tab x0 x1 x2 σ).bind (Sum.elim (fun s => f_9021_64 tab x0 x1 s.1 s.2) some) := lpO_eq _ _
noncomputable def f_9021 (tab : px_T) (σ : px_M) (x0 : Nat) : Option (Int32 × px_M) := gd (px_obj (px_lay tab x0) 9) ((f_9015 tab σ x0).bind fun q1 => gd (px_obj (px_lay tab x0) 9) ((f_9016 tab q1 x0).bind fun r2 => bn (r2 = nI 0) (gd (px_obj (px_lay tab x0) 9) (if ((q1).1 x0 9) < (nI 1) then (gd (px_obj (px_lay tab x0) 9) ((f_9018 tab q1 x0 ((nI 3))).bind fun q3 => gd (q3.1 = nI 0 ∨ q3.1 = nI 1) (some ((q3.1, q3.2))))) else (if ((q1).1 x0 9) ≤ (nI 11) then (gd (px_obj (px_lay tab x0) 9) ((((q1).2.2 x0 3)).bind fun n4 => gd (px_obj (px_lay tab n4) 1) ((((q1).2.2 n4 0)).bind fun n5 => gd (px_obj (px_lay tab n5) 11) (if (((q1).1 n5 0) + ((q1).1 x0 9)) ≤ (nI 11) then (f_9021_64 tab x0 (((q1).1 x0 9)) ((nI 0)) q1) else (gd (px_obj (px_lay tab x0) 9) ((f_9018 tab q1 x0 ((nI 4))).bind fun q6 => gd (q6.1 = nI 0 ∨ q6.1 = nI 1) (some ((q6.1, q6.2))))))))) else (gd (px_obj (px_lay tab x0) 9) ((f_9018 tab q1 x0 ((nI 3))).bind fun q7 => gd (q7.1 = nI 0 ∨ q7.1 = nI 1) (some ((q7.1, q7.2)))))))) (gd (px_obj (px_lay tab x0) 9) ((f_9018 tab q1 x0 ((nI 2))).bind fun q8 => gd (q8.1 = nI 0 ∨ q8.1 = nI 1) (some ((q8.1, q8.2)))))))
def Sg_9021 (g : px_M → Nat → Option (Int32 × px_M)) : px_S := fun av σ k => px_r1 av (fun x0 av => av = [] ∧ oW (g σ x0) (fun q => k (some (.inl q.1)) q.2))
def kp_9021_64 (Q : Nat → Int32 → Int32 → px_M → Prop) : px_P := fun ls st τ => st = [] ∧ kN ls (fun x0 ls => kI ls (fun x1 ls => kI ls (fun x2 ls => kE ls (Q x0 x1 x2 τ))))
theorem kq_9021_64 {C : px_C} {k : Option px_V → px_M → Prop} {Q : Nat → Int32 → Int32 → px_M → Prop} (H : ∀ (x0 : Nat) (x1 : Int32) (x2 : Int32) (τ : px_M), Q x0 x1 x2 τ → px_W C k 64 [some (.inr (.inr (some x0))), some (.inl x1), some (.inl x2)] [] τ) : ∀ ls st τ, kp_9021_64 Q ls st τ → px_W C k 64 ls st τ := by
  intro ls st τ hz
  obtain ⟨ez, h0⟩ := hz
  obtain ⟨x0, l0, e0, h1⟩ := kN_sp h0
  obtain ⟨x1, l1, e1, h2⟩ := kI_sp h1
  obtain ⟨x2, l2, e2, h3⟩ := kI_sp h2
  obtain ⟨ey, hy⟩ := kE_sp h3
  subst ez
  subst ey
  subst e2
  subst e1
  subst e0
  exact H x0 x1 x2 τ hy
set_option maxHeartbeats 4000000 in
set_option maxRecDepth 100000 in
theorem rl_9021_64 {C : px_C} (hn : ((px_tb C).map Prod.fst).Nodup) {h : Nat} (hh : 5 ≤ h) (hC : px_ok C pn_i9021 h) {k : Option px_V → px_M → Prop} {x0 : Nat} {x1 : Int32} : ∀ s : Int32 × px_M, oW (f_9021_64 (px_tb C) x0 x1 s.1 s.2) (fun q => k (some (.inl q.1)) q.2) → (fun s : Int32 × px_M => px_W C k 64 [some (.inr (.inr (some x0))), some (.inl x1), some (.inl s.1)] [] s.2) s := by
  intro s h0
  refine lpO_sound (P := (fun s : Int32 × px_M => px_W C k 64 [some (.inr (.inr (some x0))), some (.inl x1), some (.inl s.1)] [] s.2)) (fun s hs => ?_) h0
  obtain ⟨x2, σ⟩ := s
  refine px_runG (h - 1) ck_9021 [(9015, Sg_9015 (f_9015 (px_tb C))), (11011, Sg_11011 (f_11011 (px_tb C)))] [(64, kp_9021_64 (fun y0 y1 y2 τ => y0 = x0 ∧ y1 = x1 ∧ (fun s : Int32 × px_M => px_W C k 64 [some (.inr (.inr (some x0))), some (.inl x1), some (.inl s.1)] [] s.2) (y2, τ)))] 80 hC (px_sp1 (mf_9015 hn (by omega)) (px_sp1 (mf_11011 hn (by omega)) px_nosp)) (by omega) (px_cut1 (kq_9021_64 (fun y0 y1 y2 τ hq => by obtain ⟨rfl, rfl, hq⟩ := hq; exact hq)) px_nocut) (fun G Jf hG hJf => ?_)
  simp only [F_9021_64, oW_some, oW_none, oW_bind, oW_map, oW_ite, oW_bn, oW_gd, oW_oA, Sum.elim_inl, Sum.elim_inr, oW_and, true_and, and_true, false_and, and_false, true_or, or_true, false_or, or_false, and_self, or_self, not_false_eq_true, not_true_eq_false, false_implies, forall_const, true_implies, eq_self, ↓reduceIte] at hs
  simp only [↓hG, ↓hJf, ↓px_vc, ↓px_ex, ↓px_jp, ↓px_gi, ↓px_gl, ↓px_gr, ↓px_s1, ↓px_s2, ↓px_nl, ↓px_i1, ↓px_l1, ↓px_r1_o, ↓px_q1, ↓px_i2, ↓px_l2, ↓px_il, ↓px_d0, ↓px_d1, ↓px_d2, ↓px_pop, px_sz, ↓px_sp, ↓px_rd, ↓px_pt, ↓px_rok, ↓px_rv_o, ↓px_fill, ↓px_sl, ↓px_sw, ↓pn_SW, lc_lt, lc_ge, lc_gt, lc_le, lc_eq, ↓reduceIte, Nat.reduceEqDiff, Nat.reduceLeDiff, Nat.reduceAdd, Nat.reduceSub, reduceCtorEq, List.length_cons, List.length_nil, Option.toList_some, Option.toList_none, List.cons_append, List.nil_append, true_and, and_true, false_and, and_false, true_or, or_true, false_or, or_false, and_self, or_self, not_false_eq_true, not_true_eq_false, false_implies, forall_const, true_implies, eq_self, ↓kI_s, ↓kJ_s, ↓kN_s, ↓kO_s, ↓kZ_s, ↓kE_s, oW_and, ↓bk_9021, ↓pn_i9021, oW_some, oW_none, oW_bind, oW_map, oW_ite, oW_bn, oW_gd, oW_oA, Sum.elim_inl, Sum.elim_inr, ↓Sg_9015, ↓Sg_11011, ↓kp_9021_64]
  exact hs
set_option maxHeartbeats 4000000 in
set_option maxRecDepth 100000 in
theorem mf_9021 {tab : px_T} (hn : (tab.map Prod.fst).Nodup) {h : Nat} (hh : 5 ≤ h) : px_Ok tab pn_i9021 h (Sg_9021 (f_9021 tab)) := by
  refine px_mth hn (by decide +kernel) (fun av σ k hS => ?_) (fun C hT hC av σ k hS => ?_)
  · obtain ⟨x0, av0, e0, h0⟩ := px_r1_spec hS
    obtain ⟨ez, hz⟩ := h0
    subst ez
    subst e0
    exact Nat.le_of_ble_eq_true rfl
  · obtain ⟨x0, av0, e0, h0⟩ := px_r1_spec hS
    obtain ⟨ez, hz⟩ := h0
    subst ez
    subst e0
    subst hT
    refine px_runG (h - 1) ck_9021 [(9015, Sg_9015 (f_9015 (px_tb C))), (9016, Sg_9016 (f_9016 (px_tb C))), (9018, Sg_9018 (f_9018 (px_tb C)))] [(64, kp_9021_64 (fun y0 y1 y2 τ => oW (f_9021_64 (px_tb C) y0 y1 y2 τ) (fun q => k (some (.inl q.1)) q.2)))] 80 hC (px_sp1 (mf_9015 hn (by omega)) (px_sp1 (mf_9016 hn (by omega)) (px_sp1 (mf_9018 hn (by omega)) px_nosp))) (by omega) (px_cut1 (kq_9021_64 (fun y0 y1 y2 τ hq => by exact rl_9021_64 hn (by omega) hC (y2, τ) hq)) px_nocut) (fun G Jf hG hJf => ?_)
    simp only [f_9021, oW_some, oW_none, oW_bind, oW_map, oW_ite, oW_bn, oW_gd, oW_oA, Sum.elim_inl, Sum.elim_inr, oW_and, true_and, and_true, false_and, and_false, true_or, or_true, false_or, or_false, and_self, or_self, not_false_eq_true, not_true_eq_false, false_implies, forall_const, true_implies, eq_self, ↓reduceIte] at hz
    simp only [↓hG, ↓hJf, ↓px_vc, ↓px_ex, ↓px_jp, ↓px_gi, ↓px_gl, ↓px_gr, ↓px_s1, ↓px_s2, ↓px_nl, ↓px_i1, ↓px_l1, ↓px_r1_o, ↓px_q1, ↓px_i2, ↓px_l2, ↓px_il, ↓px_d0, ↓px_d1, ↓px_d2, ↓px_pop, px_sz, ↓px_sp, ↓px_rd, ↓px_pt, ↓px_rok, ↓px_rv_o, ↓px_fill, ↓px_sl, ↓px_sw, ↓pn_SW, lc_lt, lc_ge, lc_gt, lc_le, lc_eq, ↓reduceIte, Nat.reduceEqDiff, Nat.reduceLeDiff, Nat.reduceAdd, Nat.reduceSub, reduceCtorEq, List.length_cons, List.length_nil, Option.toList_some, Option.toList_none, List.cons_append, List.nil_append, true_and, and_true, false_and, and_false, true_or, or_true, false_or, or_false, and_self, or_self, not_false_eq_true, not_true_eq_false, false_implies, forall_const, true_implies, eq_self, ↓kI_s, ↓kJ_s, ↓kN_s, ↓kO_s, ↓kZ_s, ↓kE_s, oW_and, ↓bk_9021, ↓pn_i9021, oW_some, oW_none, oW_bind, oW_map, oW_ite, oW_bn, oW_gd, oW_oA, Sum.elim_inl, Sum.elim_inr, ↓Sg_9015, ↓Sg_9016, ↓Sg_9018, ↓kp_9021_64]
    exact hz
/-- NoThree$Reader.isHouseHere()Z -/
noncomputable def f_9020 (tab : px_T) (σ : px_M) (x0 : Nat) : Option (Int32 × px_M) := gd (px_obj (px_lay tab x0) 9) ((f_9016 tab σ x0).bind fun r1 => bn (r1 = nI 0) (gd (px_obj (px_lay tab x0) 9) ((((σ).2.2 x0 3)).bind fun n2 => gd (px_obj (px_lay tab n2) 1) (gd (px_obj (px_lay tab x0) 9) ((((σ).2.2 n2 0)).bind fun n3 => gd (px_obj (px_lay tab n3) 11) ((f_11002 tab σ n3 (((σ).1 x0 9))).bind fun r4 => bn (r4 = nI 0) (some (((nI 1), σ))) (gd (px_obj (px_lay tab x0) 9) ((f_9018 tab σ x0 ((nI 3))).bind fun q5 => if q5.1 = nI 0 then (some (((nI 0), q5.2))) else (some (((nI 1), q5.2)))))))))) (gd (px_obj (px_lay tab x0) 9) ((f_9018 tab σ x0 ((nI 2))).bind fun q6 => gd (q6.1 = nI 0 ∨ q6.1 = nI 1) (some ((q6.1, q6.2))))))
def Sg_9020 (g : px_M → Nat → Option (Int32 × px_M)) : px_S := fun av σ k => px_r1 av (fun x0 av => av = [] ∧ oW (g σ x0) (fun q => k (some (.inl q.1)) q.2))
set_option maxHeartbeats 4000000 in
set_option maxRecDepth 100000 in
theorem mf_9020 {tab : px_T} (hn : (tab.map Prod.fst).Nodup) {h : Nat} (hh : 2 ≤ h) : px_Ok tab pn_i9020 h (Sg_9020 (f_9020 tab)) := by
  refine px_mth hn (by decide +kernel) (fun av σ k hS => ?_) (fun C hT hC av σ k hS => ?_)
  · obtain ⟨x0, av0, e0, h0⟩ := px_r1_spec hS
    obtain ⟨ez, hz⟩ := h0
    subst ez
    subst e0
    exact Nat.le_of_ble_eq_true rfl
  · obtain ⟨x0, av0, e0, h0⟩ := px_r1_spec hS
    obtain ⟨ez, hz⟩ := h0
    subst ez
    subst e0
    subst hT
    refine px_runG (h - 1) ck_9020 [(9016, Sg_9016 (f_9016 (px_tb C))), (9018, Sg_9018 (f_9018 (px_tb C))), (11002, Sg_11002 (f_11002 (px_tb C)))] [] 80 hC (px_sp1 (mf_9016 hn (by omega)) (px_sp1 (mf_9018 hn (by omega)) (px_sp1 (mf_11002 hn (by omega)) px_nosp))) (by omega) px_nocut (fun G Jf hG hJf => ?_)
    simp only [f_9020, oW_some, oW_none, oW_bind, oW_map, oW_ite, oW_bn, oW_gd, oW_oA, Sum.elim_inl, Sum.elim_inr, oW_and, true_and, and_true, false_and, and_false, true_or, or_true, false_or, or_false, and_self, or_self, not_false_eq_true, not_true_eq_false, false_implies, forall_const, true_implies, eq_self, ↓reduceIte] at hz
    simp only [↓hG, ↓hJf, ↓px_vc, ↓px_ex, ↓px_jp, ↓px_gi, ↓px_gl, ↓px_gr, ↓px_s1, ↓px_s2, ↓px_nl, ↓px_i1, ↓px_l1, ↓px_r1_o, ↓px_q1, ↓px_i2, ↓px_l2, ↓px_il, ↓px_d0, ↓px_d1, ↓px_d2, ↓px_pop, px_sz, ↓px_sp, ↓px_rd, ↓px_pt, ↓px_rok, ↓px_rv_o, ↓px_fill, ↓px_sl, ↓px_sw, ↓pn_SW, lc_lt, lc_ge, lc_gt, lc_le, lc_eq, ↓reduceIte, Nat.reduceEqDiff, Nat.reduceLeDiff, Nat.reduceAdd, Nat.reduceSub, reduceCtorEq, List.length_cons, List.length_nil, Option.toList_some, Option.toList_none, List.cons_append, List.nil_append, true_and, and_true, false_and, and_false, true_or, or_true, false_or, or_false, and_self, or_self, not_false_eq_true, not_true_eq_false, false_implies, forall_const, true_implies, eq_self, ↓kI_s, ↓kJ_s, ↓kN_s, ↓kO_s, ↓kZ_s, ↓kE_s, oW_and, ↓bk_9020, ↓pn_i9020, oW_some, oW_none, oW_bind, oW_map, oW_ite, oW_bn, oW_gd, oW_oA, Sum.elim_inl, Sum.elim_inr, ↓Sg_9016, ↓Sg_9018, ↓Sg_11002]
    exact hz
/-- NoThree$Reader.readDoor()Z -/
noncomputable def f_9022 (tab : px_T) (σ : px_M) (x0 : Nat) : Option (Int32 × px_M) := gd (px_obj (px_lay tab x0) 9) ((f_9015 tab σ x0).bind fun q1 => gd (px_obj (px_lay tab x0) 9) ((f_9020 tab q1 x0).bind fun q2 => bn (q2.1 = nI 0) (gd (px_obj (px_lay tab x0) 9) (gd (px_obj (px_lay tab x0) 9) ((f_9015 tab q2.2 x0).bind fun q3 => gd (px_obj (px_lay tab x0) 9) ((f_9020 tab q3 x0).bind fun q4 => bn (q4.1 = nI 0) (gd (px_obj (px_lay tab x0) 9) (if ((q4.2).1 x0 9) = ((q2.2).1 x0 9) then (gd (px_obj (px_lay tab x0) 9) ((f_9018 tab q4.2 x0 ((nI 3))).bind fun q5 => gd (q5.1 = nI 0 ∨ q5.1 = nI 1) (some ((q5.1, q5.2))))) else (gd (px_obj (px_lay tab x0) 9) ((((q4.2).2.2 x0 3)).bind fun n6 => gd (px_obj (px_lay tab n6) 1) (gd (px_obj (px_lay tab x0) 9) ((((q4.2).2.2 n6 0)).bind fun n7 => gd (px_obj (px_lay tab n7) 11) ((f_11006 tab q4.2 n7 (((q2.2).1 x0 9)) (((q4.2).1 x0 9))).bind fun r8 => if r8 = nI 0 then (gd (px_obj (px_lay tab x0) 9) ((((q4.2).2.2 x0 3)).bind fun n9 => gd (px_obj (px_lay tab n9) 1) (gd (px_obj (px_lay tab x0) 9) ((((q4.2).2.2 n9 0)).bind fun n10 => gd (px_obj (px_lay tab n10) 11) ((f_11009 tab q4.2 n10 (((q2.2).1 x0 9)) (((q4.2).1 x0 9))).bind fun q11 => gd (px_obj (px_lay tab x0) 9) ((f_9015 tab q11 x0).bind fun q12 => some (((nI 1), q12)))))))) else (gd (px_obj (px_lay tab x0) 9) ((f_9018 tab q4.2 x0 ((nI 3))).bind fun q13 => gd (q13.1 = nI 0 ∨ q13.1 = nI 1) (some ((q13.1, q13.2)))))))))))) (some (((nI 0), q4.2))))))) (some (((nI 0), q2.2)))))
def Sg_9022 (g : px_M → Nat → Option (Int32 × px_M)) : px_S := fun av σ k => px_r1 av (fun x0 av => av = [] ∧ oW (g σ x0) (fun q => k (some (.inl q.1)) q.2))
set_option maxHeartbeats 4000000 in
set_option maxRecDepth 100000 in
theorem mf_9022 {tab : px_T} (hn : (tab.map Prod.fst).Nodup) {h : Nat} (hh : 4 ≤ h) : px_Ok tab pn_i9022 h (Sg_9022 (f_9022 tab)) := by
  refine px_mth hn (by decide +kernel) (fun av σ k hS => ?_) (fun C hT hC av σ k hS => ?_)
  · obtain ⟨x0, av0, e0, h0⟩ := px_r1_spec hS
    obtain ⟨ez, hz⟩ := h0
    subst ez
    subst e0
    exact Nat.le_of_ble_eq_true rfl
  · obtain ⟨x0, av0, e0, h0⟩ := px_r1_spec hS
    obtain ⟨ez, hz⟩ := h0
    subst ez
    subst e0
    subst hT
    refine px_runG (h - 1) ck_9022 [(9015, Sg_9015 (f_9015 (px_tb C))), (9018, Sg_9018 (f_9018 (px_tb C))), (9020, Sg_9020 (f_9020 (px_tb C))), (11006, Sg_11006 (f_11006 (px_tb C))), (11009, Sg_11009 (f_11009 (px_tb C)))] [] 80 hC (px_sp1 (mf_9015 hn (by omega)) (px_sp1 (mf_9018 hn (by omega)) (px_sp1 (mf_9020 hn (by omega)) (px_sp1 (mf_11006 hn (by omega)) (px_sp1 (mf_11009 hn (by omega)) px_nosp))))) (by omega) px_nocut (fun G Jf hG hJf => ?_)
    simp only [f_9022, oW_some, oW_none, oW_bind, oW_map, oW_ite, oW_bn, oW_gd, oW_oA, Sum.elim_inl, Sum.elim_inr, oW_and, true_and, and_true, false_and, and_false, true_or, or_true, false_or, or_false, and_self, or_self, not_false_eq_true, not_true_eq_false, false_implies, forall_const, true_implies, eq_self, ↓reduceIte] at hz
    simp only [↓hG, ↓hJf, ↓px_vc, ↓px_ex, ↓px_jp, ↓px_gi, ↓px_gl, ↓px_gr, ↓px_s1, ↓px_s2, ↓px_nl, ↓px_i1, ↓px_l1, ↓px_r1_o, ↓px_q1, ↓px_i2, ↓px_l2, ↓px_il, ↓px_d0, ↓px_d1, ↓px_d2, ↓px_pop, px_sz, ↓px_sp, ↓px_rd, ↓px_pt, ↓px_rok, ↓px_rv_o, ↓px_fill, ↓px_sl, ↓px_sw, ↓pn_SW, lc_lt, lc_ge, lc_gt, lc_le, lc_eq, ↓reduceIte, Nat.reduceEqDiff, Nat.reduceLeDiff, Nat.reduceAdd, Nat.reduceSub, reduceCtorEq, List.length_cons, List.length_nil, Option.toList_some, Option.toList_none, List.cons_append, List.nil_append, true_and, and_true, false_and, and_false, true_or, or_true, false_or, or_false, and_self, or_self, not_false_eq_true, not_true_eq_false, false_implies, forall_const, true_implies, eq_self, ↓kI_s, ↓kJ_s, ↓kN_s, ↓kO_s, ↓kZ_s, ↓kE_s, oW_and, ↓bk_9022, ↓pn_i9022, oW_some, oW_none, oW_bind, oW_map, oW_ite, oW_bn, oW_gd, oW_oA, Sum.elim_inl, Sum.elim_inr, ↓Sg_9015, ↓Sg_9018, ↓Sg_9020, ↓Sg_11006, ↓Sg_11009]
    exact hz
/-- NoThree$Reader.readRing()Z -/
noncomputable def f_9023_107 (tab : px_T) (σ : px_M) (x0 : Nat) (x2 : Int32) (x3 : Int32) : Option (Int32 × px_M) := gd (px_obj (px_lay tab x0) 9) ((((σ).2.2 x0 3)).bind fun n1 => gd (px_obj (px_lay tab n1) 1) ((((σ).2.2 n1 0)).bind fun n2 => gd (px_obj (px_lay tab n2) 11) ((f_11009 tab σ n2 x3 x2).bind fun q3 => some (((nI 1), q3)))))
noncomputable def f_9023_42 (tab : px_T) (σ : px_M) (x0 : Nat) (x1 : Int32) (x2 : Int32) (x3 : Int32) (x4 : Int32) : Option ((Int32 × Int32 × Int32 × px_M) ⊕ (Int32 × px_M)) := gd (px_obj (px_lay tab x0) 9) ((f_9020 tab σ x0).bind fun q1 => bn (q1.1 = nI 0) (gd (px_obj (px_lay tab x0) 9) (if (x1 &&& ((nI 1) <<< (((q1.2).1 x0 9) &&& 31))) = nI 0 then (gd (px_obj (px_lay tab x0) 9) (gd (px_obj (px_lay tab x0) 9) ((((q1.2).2.2 x0 3)).bind fun n2 => gd (px_obj (px_lay tab n2) 1) (gd (px_obj (px_lay tab x0) 9) ((((q1.2).2.2 n2 0)).bind fun n3 => gd (px_obj (px_lay tab n3) 11) ((f_11009 tab q1.2 n3 x3 (((q1.2).1 x0 9))).bind fun q4 => gd (px_obj (px_lay tab x0) 9) (gd (px_obj (px_lay tab x0) 9) ((f_9015 tab q4 x0).bind fun q5 => some (.inl (((x1 ||| ((nI 1) <<< (((q1.2).1 x0 9) &&& 31))), ((q4).1 x0 9), (x4 + (nI 1)), q5))))))))))) else (gd (px_obj (px_lay tab x0) 9) ((f_9018 tab q1.2 x0 ((nI 3))).bind fun q6 => gd (q6.1 = nI 0 ∨ q6.1 = nI 1) (some (.inr ((q6.1, q6.2)))))))) (some (.inr (((nI 0), q1.2)))))
noncomputable def F_9023_19 (tab : px_T) (x0 : Nat) (x2 : Int32) (x1 : Int32) (x3 : Int32) (x4 : Int32) (σ : px_M) : Option ((Int32 × Int32 × Int32 × px_M) ⊕ (Int32 × px_M)) := if (nI 11) < x4 then (Option.map Sum.inr (f_9023_107 tab σ x0 x2 x3)) else (if x4 < (nI 3) then (f_9023_42 tab σ x0 x1 x2 x3 x4) else (gd (px_obj (px_lay tab x0) 9) ((f_9016 tab σ x0).bind fun r1 => bn (r1 = nI 0) (f_9023_42 tab σ x0 x1 x2 x3 x4) (Option.map Sum.inr (f_9023_107 tab σ x0 x2 x3)))))
noncomputable def f_9023_19 (tab : px_T) (x0 : Nat) (x2 : Int32) (x1 : Int32) (x3 : Int32) (x4 : Int32) (σ : px_M) : Option (Int32 × px_M) := lpO (fun s : Int32 × Int32 × Int32 × px_M => F_9023_19 tab x0 x2 s.1 s.2.1 s.2.2.1 s.2.2.2) (x1, x3, x4, σ)
theorem f_9023_19_eq (tab : px_T) (x0 : Nat) (x2 : Int32) (x1 : Int32) (x3 : Int32) (x4 : Int32) (σ : px_M) : f_9023_19 tab x0 x2 x1 x3 x4 σ = (F_9023_19 tab x0 x2 x1 x3 x4 σ).bind (Sum.elim (fun s => f_9023_19 tab x0 x2 s.1 s.2.1 s.2.2.1 s.2.2.2) some) := lpO_eq _ _
noncomputable def f_9023 (tab : px_T) (σ : px_M) (x0 : Nat) : Option (Int32 × px_M) := gd (px_obj (px_lay tab x0) 9) ((f_9015 tab σ x0).bind fun q1 => gd (px_obj (px_lay tab x0) 9) (gd (px_obj (px_lay tab x0) 9) (f_9023_19 tab x0 (((q1).1 x0 9)) ((nI 0)) (((q1).1 x0 9)) ((nI 0)) q1)))
def Sg_9023 (g : px_M → Nat → Option (Int32 × px_M)) : px_S := fun av σ k => px_r1 av (fun x0 av => av = [] ∧ oW (g σ x0) (fun q => k (some (.inl q.1)) q.2))
def kp_9023_107 (Q : Nat → Int32 → Int32 → px_M → Prop) : px_P := fun ls st τ => st = [] ∧ kN ls (fun x0 ls => kZ ls (fun ls => kI ls (fun x2 ls => kI ls (fun x3 ls => kZ ls (fun ls => kE ls (Q x0 x2 x3 τ))))))
theorem kq_9023_107 {C : px_C} {k : Option px_V → px_M → Prop} {Q : Nat → Int32 → Int32 → px_M → Prop} (H : ∀ (x0 : Nat) (x2 : Int32) (x3 : Int32) (τ : px_M), Q x0 x2 x3 τ → ∀ (z1 : Option px_V) (z4 : Option px_V), px_W C k 107 [some (.inr (.inr (some x0))), z1, some (.inl x2), some (.inl x3), z4] [] τ) : ∀ ls st τ, kp_9023_107 Q ls st τ → px_W C k 107 ls st τ := by
  intro ls st τ hz
  obtain ⟨ez, h0⟩ := hz
  obtain ⟨x0, l0, e0, h1⟩ := kN_sp h0
  obtain ⟨z1, l1, e1, h2⟩ := kZ_sp h1
  obtain ⟨x2, l2, e2, h3⟩ := kI_sp h2
  obtain ⟨x3, l3, e3, h4⟩ := kI_sp h3
  obtain ⟨z4, l4, e4, h5⟩ := kZ_sp h4
  obtain ⟨ey, hy⟩ := kE_sp h5
  subst ez
  subst ey
  subst e4
  subst e3
  subst e2
  subst e1
  subst e0
  exact H x0 x2 x3 τ hy z1 z4
def kp_9023_42 (Q : Nat → Int32 → Int32 → Int32 → Int32 → px_M → Prop) : px_P := fun ls st τ => st = [] ∧ kN ls (fun x0 ls => kI ls (fun x1 ls => kI ls (fun x2 ls => kI ls (fun x3 ls => kI ls (fun x4 ls => kE ls (Q x0 x1 x2 x3 x4 τ))))))
theorem kq_9023_42 {C : px_C} {k : Option px_V → px_M → Prop} {Q : Nat → Int32 → Int32 → Int32 → Int32 → px_M → Prop} (H : ∀ (x0 : Nat) (x1 : Int32) (x2 : Int32) (x3 : Int32) (x4 : Int32) (τ : px_M), Q x0 x1 x2 x3 x4 τ → px_W C k 42 [some (.inr (.inr (some x0))), some (.inl x1), some (.inl x2), some (.inl x3), some (.inl x4)] [] τ) : ∀ ls st τ, kp_9023_42 Q ls st τ → px_W C k 42 ls st τ := by
  intro ls st τ hz
  obtain ⟨ez, h0⟩ := hz
  obtain ⟨x0, l0, e0, h1⟩ := kN_sp h0
  obtain ⟨x1, l1, e1, h2⟩ := kI_sp h1
  obtain ⟨x2, l2, e2, h3⟩ := kI_sp h2
  obtain ⟨x3, l3, e3, h4⟩ := kI_sp h3
  obtain ⟨x4, l4, e4, h5⟩ := kI_sp h4
  obtain ⟨ey, hy⟩ := kE_sp h5
  subst ez
  subst ey
  subst e4
  subst e3
  subst e2
  subst e1
  subst e0
  exact H x0 x1 x2 x3 x4 τ hy
def kp_9023_19 (Q : Nat → Int32 → Int32 → Int32 → Int32 → px_M → Prop) : px_P := fun ls st τ => st = [] ∧ kN ls (fun x0 ls => kI ls (fun x1 ls => kI ls (fun x2 ls => kI ls (fun x3 ls => kI ls (fun x4 ls => kE ls (Q x0 x1 x2 x3 x4 τ))))))
theorem kq_9023_19 {C : px_C} {k : Option px_V → px_M → Prop} {Q : Nat → Int32 → Int32 → Int32 → Int32 → px_M → Prop} (H : ∀ (x0 : Nat) (x1 : Int32) (x2 : Int32) (x3 : Int32) (x4 : Int32) (τ : px_M), Q x0 x1 x2 x3 x4 τ → px_W C k 19 [some (.inr (.inr (some x0))), some (.inl x1), some (.inl x2), some (.inl x3), some (.inl x4)] [] τ) : ∀ ls st τ, kp_9023_19 Q ls st τ → px_W C k 19 ls st τ := by
  intro ls st τ hz
  obtain ⟨ez, h0⟩ := hz
  obtain ⟨x0, l0, e0, h1⟩ := kN_sp h0
  obtain ⟨x1, l1, e1, h2⟩ := kI_sp h1
  obtain ⟨x2, l2, e2, h3⟩ := kI_sp h2
  obtain ⟨x3, l3, e3, h4⟩ := kI_sp h3
  obtain ⟨x4, l4, e4, h5⟩ := kI_sp h4
  obtain ⟨ey, hy⟩ := kE_sp h5
  subst ez
  subst ey
  subst e4
  subst e3
  subst e2
  subst e1
  subst e0
  exact H x0 x1 x2 x3 x4 τ hy
set_option maxHeartbeats 4000000 in
set_option maxRecDepth 100000 in
theorem rl_9023_107 {C : px_C} (hn : ((px_tb C).map Prod.fst).Nodup) {h : Nat} (hh : 4 ≤ h) (hC : px_ok C pn_i9023 h) {k : Option px_V → px_M → Prop} {x0 : Nat} {x2 : Int32} {x3 : Int32} {σ : px_M} (hs : oW (f_9023_107 (px_tb C) σ x0 x2 x3) (fun q => k (some (.inl q.1)) q.2)) : ∀ (z1 : Option px_V) (z4 : Option px_V), px_W C k 107 [some (.inr (.inr (some x0))), z1, some (.inl x2), some (.inl x3), z4] [] σ := by
  intro z1 z4
  refine px_runG (h - 1) ck_9023 [(11009, Sg_11009 (f_11009 (px_tb C)))] [] 80 hC (px_sp1 (mf_11009 hn (by omega)) px_nosp) (by omega) px_nocut (fun G Jf hG hJf => ?_)
  simp only [f_9023_107, oW_some, oW_none, oW_bind, oW_map, oW_ite, oW_bn, oW_gd, oW_oA, Sum.elim_inl, Sum.elim_inr, oW_and, true_and, and_true, false_and, and_false, true_or, or_true, false_or, or_false, and_self, or_self, not_false_eq_true, not_true_eq_false, false_implies, forall_const, true_implies, eq_self, ↓reduceIte] at hs
  simp only [↓hG, ↓hJf, ↓px_vc, ↓px_ex, ↓px_jp, ↓px_gi, ↓px_gl, ↓px_gr, ↓px_s1, ↓px_s2, ↓px_nl, ↓px_i1, ↓px_l1, ↓px_r1_o, ↓px_q1, ↓px_i2, ↓px_l2, ↓px_il, ↓px_d0, ↓px_d1, ↓px_d2, ↓px_pop, px_sz, ↓px_sp, ↓px_rd, ↓px_pt, ↓px_rok, ↓px_rv_o, ↓px_fill, ↓px_sl, ↓px_sw, ↓pn_SW, lc_lt, lc_ge, lc_gt, lc_le, lc_eq, ↓reduceIte, Nat.reduceEqDiff, Nat.reduceLeDiff, Nat.reduceAdd, Nat.reduceSub, reduceCtorEq, List.length_cons, List.length_nil, Option.toList_some, Option.toList_none, List.cons_append, List.nil_append, true_and, and_true, false_and, and_false, true_or, or_true, false_or, or_false, and_self, or_self, not_false_eq_true, not_true_eq_false, false_implies, forall_const, true_implies, eq_self, ↓kI_s, ↓kJ_s, ↓kN_s, ↓kO_s, ↓kZ_s, ↓kE_s, oW_and, ↓bk_9023, ↓pn_i9023, oW_some, oW_none, oW_bind, oW_map, oW_ite, oW_bn, oW_gd, oW_oA, Sum.elim_inl, Sum.elim_inr, ↓Sg_11009]
  exact hs
set_option maxHeartbeats 4000000 in
set_option maxRecDepth 100000 in
theorem rl_9023_42 {C : px_C} (hn : ((px_tb C).map Prod.fst).Nodup) {h : Nat} (hh : 4 ≤ h) (hC : px_ok C pn_i9023 h) {k : Option px_V → px_M → Prop} {x0 : Nat} {x1 : Int32} {x2 : Int32} {x3 : Int32} {x4 : Int32} {σ : px_M} (hs : oW (f_9023_42 (px_tb C) σ x0 x1 x2 x3 x4) (Sum.elim (fun s : Int32 × Int32 × Int32 × px_M => px_W C k 19 [some (.inr (.inr (some x0))), some (.inl s.1), some (.inl x2), some (.inl s.2.1), some (.inl s.2.2.1)] [] s.2.2.2) (fun q => k (some (.inl q.1)) q.2))) : px_W C k 42 [some (.inr (.inr (some x0))), some (.inl x1), some (.inl x2), some (.inl x3), some (.inl x4)] [] σ := by
  refine px_runG (h - 1) ck_9023 [(9015, Sg_9015 (f_9015 (px_tb C))), (9018, Sg_9018 (f_9018 (px_tb C))), (9020, Sg_9020 (f_9020 (px_tb C))), (11009, Sg_11009 (f_11009 (px_tb C)))] [(19, kp_9023_19 (fun y0 y1 y2 y3 y4 τ => y0 = x0 ∧ y2 = x2 ∧ (fun s : Int32 × Int32 × Int32 × px_M => px_W C k 19 [some (.inr (.inr (some x0))), some (.inl s.1), some (.inl x2), some (.inl s.2.1), some (.inl s.2.2.1)] [] s.2.2.2) (y1, y3, y4, τ)))] 80 hC (px_sp1 (mf_9015 hn (by omega)) (px_sp1 (mf_9018 hn (by omega)) (px_sp1 (mf_9020 hn (by omega)) (px_sp1 (mf_11009 hn (by omega)) px_nosp)))) (by omega) (px_cut1 (kq_9023_19 (fun y0 y1 y2 y3 y4 τ hq => by obtain ⟨rfl, rfl, hq⟩ := hq; exact hq)) px_nocut) (fun G Jf hG hJf => ?_)
  simp only [f_9023_42, oW_some, oW_none, oW_bind, oW_map, oW_ite, oW_bn, oW_gd, oW_oA, Sum.elim_inl, Sum.elim_inr, oW_and, true_and, and_true, false_and, and_false, true_or, or_true, false_or, or_false, and_self, or_self, not_false_eq_true, not_true_eq_false, false_implies, forall_const, true_implies, eq_self, ↓reduceIte] at hs
  simp only [↓hG, ↓hJf, ↓px_vc, ↓px_ex, ↓px_jp, ↓px_gi, ↓px_gl, ↓px_gr, ↓px_s1, ↓px_s2, ↓px_nl, ↓px_i1, ↓px_l1, ↓px_r1_o, ↓px_q1, ↓px_i2, ↓px_l2, ↓px_il, ↓px_d0, ↓px_d1, ↓px_d2, ↓px_pop, px_sz, ↓px_sp, ↓px_rd, ↓px_pt, ↓px_rok, ↓px_rv_o, ↓px_fill, ↓px_sl, ↓px_sw, ↓pn_SW, lc_lt, lc_ge, lc_gt, lc_le, lc_eq, ↓reduceIte, Nat.reduceEqDiff, Nat.reduceLeDiff, Nat.reduceAdd, Nat.reduceSub, reduceCtorEq, List.length_cons, List.length_nil, Option.toList_some, Option.toList_none, List.cons_append, List.nil_append, true_and, and_true, false_and, and_false, true_or, or_true, false_or, or_false, and_self, or_self, not_false_eq_true, not_true_eq_false, false_implies, forall_const, true_implies, eq_self, ↓kI_s, ↓kJ_s, ↓kN_s, ↓kO_s, ↓kZ_s, ↓kE_s, oW_and, ↓bk_9023, ↓pn_i9023, oW_some, oW_none, oW_bind, oW_map, oW_ite, oW_bn, oW_gd, oW_oA, Sum.elim_inl, Sum.elim_inr, ↓Sg_9015, ↓Sg_9018, ↓Sg_9020, ↓Sg_11009, ↓kp_9023_19]
  exact hs
set_option maxHeartbeats 4000000 in
set_option maxRecDepth 100000 in
theorem rl_9023_19 {C : px_C} (hn : ((px_tb C).map Prod.fst).Nodup) {h : Nat} (hh : 4 ≤ h) (hC : px_ok C pn_i9023 h) {k : Option px_V → px_M → Prop} {x0 : Nat} {x2 : Int32} : ∀ s : Int32 × Int32 × Int32 × px_M, oW (f_9023_19 (px_tb C) x0 x2 s.1 s.2.1 s.2.2.1 s.2.2.2) (fun q => k (some (.inl q.1)) q.2) → (fun s : Int32 × Int32 × Int32 × px_M => px_W C k 19 [some (.inr (.inr (some x0))), some (.inl s.1), some (.inl x2), some (.inl s.2.1), some (.inl s.2.2.1)] [] s.2.2.2) s := by
  intro s h0
  refine lpO_sound (P := (fun s : Int32 × Int32 × Int32 × px_M => px_W C k 19 [some (.inr (.inr (some x0))), some (.inl s.1), some (.inl x2), some (.inl s.2.1), some (.inl s.2.2.1)] [] s.2.2.2)) (fun s hs => ?_) h0
  obtain ⟨x1, x3, x4, σ⟩ := s
  refine px_runG (h - 1) ck_9023 [(9016, Sg_9016 (f_9016 (px_tb C)))] [(42, kp_9023_42 (fun y0 y1 y2 y3 y4 τ => y0 = x0 ∧ y2 = x2 ∧ oW (f_9023_42 (px_tb C) τ y0 y1 y2 y3 y4) (Sum.elim (fun s : Int32 × Int32 × Int32 × px_M => px_W C k 19 [some (.inr (.inr (some x0))), some (.inl s.1), some (.inl x2), some (.inl s.2.1), some (.inl s.2.2.1)] [] s.2.2.2) (fun q => k (some (.inl q.1)) q.2)))), (107, kp_9023_107 (fun y0 y2 y3 τ => oW (f_9023_107 (px_tb C) τ y0 y2 y3) (fun q => k (some (.inl q.1)) q.2)))] 80 hC (px_sp1 (mf_9016 hn (by omega)) px_nosp) (by omega) (px_cut1 (kq_9023_42 (fun y0 y1 y2 y3 y4 τ hq => by obtain ⟨rfl, rfl, hq⟩ := hq; exact rl_9023_42 hn (by omega) hC  hq)) (px_cut1 (kq_9023_107 (fun y0 y2 y3 τ hq => by exact rl_9023_107 hn (by omega) hC  hq)) px_nocut)) (fun G Jf hG hJf => ?_)
  simp only [F_9023_19, oW_some, oW_none, oW_bind, oW_map, oW_ite, oW_bn, oW_gd, oW_oA, Sum.elim_inl, Sum.elim_inr, oW_and, true_and, and_true, false_and, and_false, true_or, or_true, false_or, or_false, and_self, or_self, not_false_eq_true, not_true_eq_false, false_implies, forall_const, true_implies, eq_self, ↓reduceIte] at hs
  simp only [↓hG, ↓hJf, ↓px_vc, ↓px_ex, ↓px_jp, ↓px_gi, ↓px_gl, ↓px_gr, ↓px_s1, ↓px_s2, ↓px_nl, ↓px_i1, ↓px_l1, ↓px_r1_o, ↓px_q1, ↓px_i2, ↓px_l2, ↓px_il, ↓px_d0, ↓px_d1, ↓px_d2, ↓px_pop, px_sz, ↓px_sp, ↓px_rd, ↓px_pt, ↓px_rok, ↓px_rv_o, ↓px_fill, ↓px_sl, ↓px_sw, ↓pn_SW, lc_lt, lc_ge, lc_gt, lc_le, lc_eq, ↓reduceIte, Nat.reduceEqDiff, Nat.reduceLeDiff, Nat.reduceAdd, Nat.reduceSub, reduceCtorEq, List.length_cons, List.length_nil, Option.toList_some, Option.toList_none, List.cons_append, List.nil_append, true_and, and_true, false_and, and_false, true_or, or_true, false_or, or_false, and_self, or_self, not_false_eq_true, not_true_eq_false, false_implies, forall_const, true_implies, eq_self, ↓kI_s, ↓kJ_s, ↓kN_s, ↓kO_s, ↓kZ_s, ↓kE_s, oW_and, ↓bk_9023, ↓pn_i9023, oW_some, oW_none, oW_bind, oW_map, oW_ite, oW_bn, oW_gd, oW_oA, Sum.elim_inl, Sum.elim_inr, ↓Sg_9016, ↓kp_9023_42, ↓kp_9023_107]
  exact hs
set_option maxHeartbeats 4000000 in
set_option maxRecDepth 100000 in
theorem mf_9023 {tab : px_T} (hn : (tab.map Prod.fst).Nodup) {h : Nat} (hh : 4 ≤ h) : px_Ok tab pn_i9023 h (Sg_9023 (f_9023 tab)) := by
  refine px_mth hn (by decide +kernel) (fun av σ k hS => ?_) (fun C hT hC av σ k hS => ?_)
  · obtain ⟨x0, av0, e0, h0⟩ := px_r1_spec hS
    obtain ⟨ez, hz⟩ := h0
    subst ez
    subst e0
    exact Nat.le_of_ble_eq_true rfl
  · obtain ⟨x0, av0, e0, h0⟩ := px_r1_spec hS
    obtain ⟨ez, hz⟩ := h0
    subst ez
    subst e0
    subst hT
    refine px_runG (h - 1) ck_9023 [(9015, Sg_9015 (f_9015 (px_tb C)))] [(19, kp_9023_19 (fun y0 y1 y2 y3 y4 τ => oW (f_9023_19 (px_tb C) y0 y2 y1 y3 y4 τ) (fun q => k (some (.inl q.1)) q.2)))] 80 hC (px_sp1 (mf_9015 hn (by omega)) px_nosp) (by omega) (px_cut1 (kq_9023_19 (fun y0 y1 y2 y3 y4 τ hq => by exact rl_9023_19 hn (by omega) hC (y1, y3, y4, τ) hq)) px_nocut) (fun G Jf hG hJf => ?_)
    simp only [f_9023, oW_some, oW_none, oW_bind, oW_map, oW_ite, oW_bn, oW_gd, oW_oA, Sum.elim_inl, Sum.elim_inr, oW_and, true_and, and_true, false_and, and_false, true_or, or_true, false_or, or_false, and_self, or_self, not_false_eq_true, not_true_eq_false, false_implies, forall_const, true_implies, eq_self, ↓reduceIte] at hz
    simp only [↓hG, ↓hJf, ↓px_vc, ↓px_ex, ↓px_jp, ↓px_gi, ↓px_gl, ↓px_gr, ↓px_s1, ↓px_s2, ↓px_nl, ↓px_i1, ↓px_l1, ↓px_r1_o, ↓px_q1, ↓px_i2, ↓px_l2, ↓px_il, ↓px_d0, ↓px_d1, ↓px_d2, ↓px_pop, px_sz, ↓px_sp, ↓px_rd, ↓px_pt, ↓px_rok, ↓px_rv_o, ↓px_fill, ↓px_sl, ↓px_sw, ↓pn_SW, lc_lt, lc_ge, lc_gt, lc_le, lc_eq, ↓reduceIte, Nat.reduceEqDiff, Nat.reduceLeDiff, Nat.reduceAdd, Nat.reduceSub, reduceCtorEq, List.length_cons, List.length_nil, Option.toList_some, Option.toList_none, List.cons_append, List.nil_append, true_and, and_true, false_and, and_false, true_or, or_true, false_or, or_false, and_self, or_self, not_false_eq_true, not_true_eq_false, false_implies, forall_const, true_implies, eq_self, ↓kI_s, ↓kJ_s, ↓kN_s, ↓kO_s, ↓kZ_s, ↓kE_s, oW_and, ↓bk_9023, ↓pn_i9023, oW_some, oW_none, oW_bind, oW_map, oW_ite, oW_bn, oW_gd, oW_oA, Sum.elim_inl, Sum.elim_inr, ↓Sg_9015, ↓kp_9023_19]
    exact hz
/-- NoThree$Reader.comparisonOf(I)I -/
noncomputable def f_9029 (tab : px_T) (σ : px_M) (x0 : Int32) : Option (Int32) := (if x0 = nI 4060 then (some ((nI 2004))) else (if x0 = nI 4061 then (some ((nI 2003))) else (if x0 = nI 4062 then (some ((nI 2005))) else (some ((-1))))))
def Sg_9029 (g : px_M → Int32 → Option (Int32)) : px_S := fun av σ k => px_i1 av (fun x0 av => av = [] ∧ oW (g σ x0) (fun r => k (some (.inl r)) σ))
set_option maxHeartbeats 4000000 in
set_option maxRecDepth 100000 in
theorem mf_9029 {tab : px_T} (hn : (tab.map Prod.fst).Nodup) {h : Nat} (hh : 1 ≤ h) : px_Ok tab pn_i9029 h (Sg_9029 (f_9029 tab)) := by
  refine px_mth hn (by decide +kernel) (fun av σ k hS => ?_) (fun C hT hC av σ k hS => ?_)
  · obtain ⟨x0, av0, e0, h0⟩ := px_i1_spec hS
    obtain ⟨ez, hz⟩ := h0
    subst ez
    subst e0
    exact Nat.le_of_ble_eq_true rfl
  · obtain ⟨x0, av0, e0, h0⟩ := px_i1_spec hS
    obtain ⟨ez, hz⟩ := h0
    subst ez
    subst e0
    subst hT
    refine px_runG (h - 1) ck_9029 [] [] 80 hC px_nosp (by omega) px_nocut (fun G Jf hG hJf => ?_)
    simp only [f_9029, oW_some, oW_none, oW_bind, oW_map, oW_ite, oW_bn, oW_gd, oW_oA, Sum.elim_inl, Sum.elim_inr, oW_and, true_and, and_true, false_and, and_false, true_or, or_true, false_or, or_false, and_self, or_self, not_false_eq_true, not_true_eq_false, false_implies, forall_const, true_implies, eq_self, ↓reduceIte] at hz
    simp only [↓hG, ↓hJf, ↓px_vc, ↓px_ex, ↓px_jp, ↓px_gi, ↓px_gl, ↓px_gr, ↓px_s1, ↓px_s2, ↓px_nl, ↓px_i1, ↓px_l1, ↓px_r1_o, ↓px_q1, ↓px_i2, ↓px_l2, ↓px_il, ↓px_d0, ↓px_d1, ↓px_d2, ↓px_pop, px_sz, ↓px_sp, ↓px_rd, ↓px_pt, ↓px_rok, ↓px_rv_o, ↓px_fill, ↓px_sl, ↓px_sw, ↓pn_SW, lc_lt, lc_ge, lc_gt, lc_le, lc_eq, ↓reduceIte, Nat.reduceEqDiff, Nat.reduceLeDiff, Nat.reduceAdd, Nat.reduceSub, reduceCtorEq, List.length_cons, List.length_nil, Option.toList_some, Option.toList_none, List.cons_append, List.nil_append, true_and, and_true, false_and, and_false, true_or, or_true, false_or, or_false, and_self, or_self, not_false_eq_true, not_true_eq_false, false_implies, forall_const, true_implies, eq_self, ↓kI_s, ↓kJ_s, ↓kN_s, ↓kO_s, ↓kZ_s, ↓kE_s, oW_and, ↓bk_9029, ↓pn_i9029, oW_some, oW_none, oW_bind, oW_map, oW_ite, oW_bn, oW_gd, oW_oA, Sum.elim_inl, Sum.elim_inr]
    exact hz
/-- NoThree$Reader.isRuleWord()Z -/
noncomputable def f_9017 (tab : px_T) (σ : px_M) (x0 : Nat) : Option (Int32) := gd (px_obj (px_lay tab x0) 9) (if ((σ).1 x0 9) < (nI 1000) then (some ((nI 0))) else (gd (px_obj (px_lay tab x0) 9) (if (nI 2000) ≤ ((σ).1 x0 9) then (some ((nI 0))) else (some ((nI 1))))))
def Sg_9017 (g : px_M → Nat → Option (Int32)) : px_S := fun av σ k => px_r1 av (fun x0 av => av = [] ∧ oW (g σ x0) (fun r => k (some (.inl r)) σ))
set_option maxHeartbeats 4000000 in
set_option maxRecDepth 100000 in
theorem mf_9017 {tab : px_T} (hn : (tab.map Prod.fst).Nodup) {h : Nat} (hh : 1 ≤ h) : px_Ok tab pn_i9017 h (Sg_9017 (f_9017 tab)) := by
  refine px_mth hn (by decide +kernel) (fun av σ k hS => ?_) (fun C hT hC av σ k hS => ?_)
  · obtain ⟨x0, av0, e0, h0⟩ := px_r1_spec hS
    obtain ⟨ez, hz⟩ := h0
    subst ez
    subst e0
    exact Nat.le_of_ble_eq_true rfl
  · obtain ⟨x0, av0, e0, h0⟩ := px_r1_spec hS
    obtain ⟨ez, hz⟩ := h0
    subst ez
    subst e0
    subst hT
    refine px_runG (h - 1) ck_9017 [] [] 80 hC px_nosp (by omega) px_nocut (fun G Jf hG hJf => ?_)
    simp only [f_9017, oW_some, oW_none, oW_bind, oW_map, oW_ite, oW_bn, oW_gd, oW_oA, Sum.elim_inl, Sum.elim_inr, oW_and, true_and, and_true, false_and, and_false, true_or, or_true, false_or, or_false, and_self, or_self, not_false_eq_true, not_true_eq_false, false_implies, forall_const, true_implies, eq_self, ↓reduceIte] at hz
    simp only [↓hG, ↓hJf, ↓px_vc, ↓px_ex, ↓px_jp, ↓px_gi, ↓px_gl, ↓px_gr, ↓px_s1, ↓px_s2, ↓px_nl, ↓px_i1, ↓px_l1, ↓px_r1_o, ↓px_q1, ↓px_i2, ↓px_l2, ↓px_il, ↓px_d0, ↓px_d1, ↓px_d2, ↓px_pop, px_sz, ↓px_sp, ↓px_rd, ↓px_pt, ↓px_rok, ↓px_rv_o, ↓px_fill, ↓px_sl, ↓px_sw, ↓pn_SW, lc_lt, lc_ge, lc_gt, lc_le, lc_eq, ↓reduceIte, Nat.reduceEqDiff, Nat.reduceLeDiff, Nat.reduceAdd, Nat.reduceSub, reduceCtorEq, List.length_cons, List.length_nil, Option.toList_some, Option.toList_none, List.cons_append, List.nil_append, true_and, and_true, false_and, and_false, true_or, or_true, false_or, or_false, and_self, or_self, not_false_eq_true, not_true_eq_false, false_implies, forall_const, true_implies, eq_self, ↓kI_s, ↓kJ_s, ↓kN_s, ↓kO_s, ↓kZ_s, ↓kE_s, oW_and, ↓bk_9017, ↓pn_i9017, oW_some, oW_none, oW_bind, oW_map, oW_ite, oW_bn, oW_gd, oW_oA, Sum.elim_inl, Sum.elim_inr]
    exact hz
/-- NoThree$Rules.add(I)V -/
noncomputable def f_10004 (tab : px_T) (σ : px_M) (x0 : Nat) (x1 : Int32) : Option (px_M) := gd (px_obj (px_lay tab x0) 10) (if ((σ).1 x0 4) < nI 0 then (some (σ)) else (gd (px_obj (px_lay tab x0) 10) (if (nI 900) ≤ ((σ).1 x0 4) then (some (σ)) else (gd (px_obj (px_lay tab x0) 10) (if ((σ).1 x0 0) < nI 0 then (some (σ)) else (gd (px_obj (px_lay tab x0) 10) (if ((σ).1 x0 0) < (nI 6) then (gd (px_obj (px_lay tab x0) 10) (gd (px_obj (px_lay tab x0) 10) ((((σ).2.2 x0 3)).bind fun n1 => oA (px_lay tab n1) fun t2 l3 => gd (t2 = 0) (gd (vp_in ((σ).1 x0 4) l3) (gd (px_obj (px_lay tab x0) 10) (gd (px_obj (px_lay tab x0) 10) (if x1 < (nI 1000) then (some ((px_wi (px_wi σ n1 (((σ).1 x0 4)).toNatClampNeg x1) x0 4 ((((px_wi σ n1 (((σ).1 x0 4)).toNatClampNeg x1)).1 x0 4) + (nI 1))))) else (if (nI 2000) ≤ x1 then (some ((px_wi (px_wi σ n1 (((σ).1 x0 4)).toNatClampNeg x1) x0 4 ((((px_wi σ n1 (((σ).1 x0 4)).toNatClampNeg x1)).1 x0 4) + (nI 1))))) else (gd (px_obj (px_lay tab x0) 10) (gd (px_obj (px_lay tab x0) 10) (((((px_wi (px_wi σ n1 (((σ).1 x0 4)).toNatClampNeg x1) x0 4 ((((px_wi σ n1 (((σ).1 x0 4)).toNatClampNeg x1)).1 x0 4) + (nI 1)))).2.2 x0 2)).bind fun n4 => oA (px_lay tab n4) fun t5 l6 => gd (t5 = 0) (gd (vp_in (((px_wi (px_wi σ n1 (((σ).1 x0 4)).toNatClampNeg x1) x0 4 ((((px_wi σ n1 (((σ).1 x0 4)).toNatClampNeg x1)).1 x0 4) + (nI 1)))).1 x0 0) l6) (((((px_wi (px_wi σ n1 (((σ).1 x0 4)).toNatClampNeg x1) x0 4 ((((px_wi σ n1 (((σ).1 x0 4)).toNatClampNeg x1)).1 x0 4) + (nI 1)))).2.2 x0 2)).bind fun n7 => oA (px_lay tab n7) fun t8 l9 => gd (t8 = 0) (gd (vp_in (((px_wi (px_wi σ n1 (((σ).1 x0 4)).toNatClampNeg x1) x0 4 ((((px_wi σ n1 (((σ).1 x0 4)).toNatClampNeg x1)).1 x0 4) + (nI 1)))).1 x0 0) l9) (some ((px_wi (px_wi (px_wi σ n1 (((σ).1 x0 4)).toNatClampNeg x1) x0 4 ((((px_wi σ n1 (((σ).1 x0 4)).toNatClampNeg x1)).1 x0 4) + (nI 1))) n7 ((((px_wi (px_wi σ n1 (((σ).1 x0 4)).toNatClampNeg x1) x0 4 ((((px_wi σ n1 (((σ).1 x0 4)).toNatClampNeg x1)).1 x0 4) + (nI 1)))).1 x0 0)).toNatClampNeg ((((px_wi (px_wi σ n1 (((σ).1 x0 4)).toNatClampNeg x1) x0 4 ((((px_wi σ n1 (((σ).1 x0 4)).toNatClampNeg x1)).1 x0 4) + (nI 1)))).1 n4 ((((px_wi (px_wi σ n1 (((σ).1 x0 4)).toNatClampNeg x1) x0 4 ((((px_wi σ n1 (((σ).1 x0 4)).toNatClampNeg x1)).1 x0 4) + (nI 1)))).1 x0 0)).toNatClampNeg) ||| ((nI 1) <<< ((x1 - (nI 1000)) &&& 31)))))))))))))))))))) else (some (σ)))))))))
def Sg_10004 (g : px_M → Nat → Int32 → Option (px_M)) : px_S := fun av σ k => px_r1 av (fun x0 av => px_i1 av (fun x1 av => av = [] ∧ oW (g σ x0 x1) (fun τ => k none τ)))
set_option maxHeartbeats 4000000 in
set_option maxRecDepth 100000 in
theorem mf_10004 {tab : px_T} (hn : (tab.map Prod.fst).Nodup) {h : Nat} (hh : 1 ≤ h) : px_Ok tab pn_i10004 h (Sg_10004 (f_10004 tab)) := by
  refine px_mth hn (by decide +kernel) (fun av σ k hS => ?_) (fun C hT hC av σ k hS => ?_)
  · obtain ⟨x0, av0, e0, h0⟩ := px_r1_spec hS
    obtain ⟨x1, av1, e1, h1⟩ := px_i1_spec h0
    obtain ⟨ez, hz⟩ := h1
    subst ez
    subst e1
    subst e0
    exact Nat.le_of_ble_eq_true rfl
  · obtain ⟨x0, av0, e0, h0⟩ := px_r1_spec hS
    obtain ⟨x1, av1, e1, h1⟩ := px_i1_spec h0
    obtain ⟨ez, hz⟩ := h1
    subst ez
    subst e1
    subst e0
    subst hT
    refine px_runG (h - 1) ck_10004 [] [] 80 hC px_nosp (by omega) px_nocut (fun G Jf hG hJf => ?_)
    simp only [f_10004, oW_some, oW_none, oW_bind, oW_map, oW_ite, oW_bn, oW_gd, oW_oA, Sum.elim_inl, Sum.elim_inr, oW_and, true_and, and_true, false_and, and_false, true_or, or_true, false_or, or_false, and_self, or_self, not_false_eq_true, not_true_eq_false, false_implies, forall_const, true_implies, eq_self, ↓reduceIte] at hz
    simp only [↓hG, ↓hJf, ↓px_vc, ↓px_ex, ↓px_jp, ↓px_gi, ↓px_gl, ↓px_gr, ↓px_s1, ↓px_s2, ↓px_nl, ↓px_i1, ↓px_l1, ↓px_r1_o, ↓px_q1, ↓px_i2, ↓px_l2, ↓px_il, ↓px_d0, ↓px_d1, ↓px_d2, ↓px_pop, px_sz, ↓px_sp, ↓px_rd, ↓px_pt, ↓px_rok, ↓px_rv_o, ↓px_fill, ↓px_sl, ↓px_sw, ↓pn_SW, lc_lt, lc_ge, lc_gt, lc_le, lc_eq, ↓reduceIte, Nat.reduceEqDiff, Nat.reduceLeDiff, Nat.reduceAdd, Nat.reduceSub, reduceCtorEq, List.length_cons, List.length_nil, Option.toList_some, Option.toList_none, List.cons_append, List.nil_append, true_and, and_true, false_and, and_false, true_or, or_true, false_or, or_false, and_self, or_self, not_false_eq_true, not_true_eq_false, false_implies, forall_const, true_implies, eq_self, ↓kI_s, ↓kJ_s, ↓kN_s, ↓kO_s, ↓kZ_s, ↓kE_s, oW_and, ↓bk_10004, ↓pn_i10004, oW_some, oW_none, oW_bind, oW_map, oW_ite, oW_bn, oW_gd, oW_oA, Sum.elim_inl, Sum.elim_inr]
    exact hz
