/-! shallow functions, printed by wip/whole/decomp.py -/
def Sg_9021 (g : px_M → Nat → Option (Int32 × px_M)) : px_S := fun av σ k => px_r1 av (fun x0 av => av = [] ∧ oW (g σ x0) (fun q => k (some (.inl q.1)) q.2))
/-- NoThree$Reader.readHouses()Z -/
noncomputable def F_9021_64 (tab : px_T) (x0 : Nat) (x1 : Int32) (x2 : Int32) (σ : px_M) : Option ((Int32 × px_M) ⊕ (Int32 × px_M)) := if x1 ≤ x2 then (gd (px_obj (px_lay tab x0) 9) ((f_9015 tab σ x0).bind fun q1 => some (.inr (((nI 1), q1))))) else (gd (px_obj (px_lay tab x0) 9) ((((σ).2.2 x0 3)).bind fun n2 => gd (px_obj (px_lay tab n2) 1) ((((σ).2.2 n2 0)).bind fun n3 => gd (px_obj (px_lay tab n3) 11) ((f_11011 tab σ n3 ((nI 0))).bind fun q4 => some (.inl (((x2 + (nI 1)), q4)))))))
noncomputable def f_9021_64 (tab : px_T) (x0 : Nat) (x1 : Int32) (x2 : Int32) (σ : px_M) : Option (Int32 × px_M) := lpO (fun s : Int32 × px_M => F_9021_64 tab x0 x1 s.1 s.2) (x2, σ)
theorem f_9021_64_eq (tab : px_T) (x0 : Nat) (x1 : Int32) (x2 : Int32) (σ : px_M) : f_9021_64 tab x0 x1 x2 σ = (F_9021_64 tab x0 x1 x2 σ).bind (Sum.elim (fun s => f_9021_64 tab x0 x1 s.1 s.2) some) := lpO_eq _ _
noncomputable def f_9021_39 (tab : px_T) (σ : px_M) (x0 : Nat) (x1 : Int32) : Option (Int32 × px_M) := gd (px_obj (px_lay tab x0) 9) ((((σ).2.2 x0 3)).bind fun n1 => gd (px_obj (px_lay tab n1) 1) ((((σ).2.2 n1 0)).bind fun n2 => gd (px_obj (px_lay tab n2) 11) (if (((σ).1 n2 0) + x1) ≤ (nI 11) then (f_9021_64 tab x0 x1 ((nI 0)) σ) else (gd (px_obj (px_lay tab x0) 9) ((f_9018 tab σ x0 ((nI 4))).bind fun q3 => gd (q3.1 = nI 0 ∨ q3.1 = nI 1) (some ((q3.1, q3.2))))))))
noncomputable def f_9021_33 (tab : px_T) (σ : px_M) (x0 : Nat) : Option (Int32 × px_M) := gd (px_obj (px_lay tab x0) 9) ((f_9018 tab σ x0 ((nI 3))).bind fun q1 => gd (q1.1 = nI 0 ∨ q1.1 = nI 1) (some ((q1.1, q1.2))))
noncomputable def f_9021 (tab : px_T) (σ : px_M) (x0 : Nat) : Option (Int32 × px_M) := gd (px_obj (px_lay tab x0) 9) ((f_9015 tab σ x0).bind fun q1 => gd (px_obj (px_lay tab x0) 9) ((f_9016 tab q1 x0).bind fun r2 => bn (r2 = nI 0) (gd (px_obj (px_lay tab x0) 9) (if ((q1).1 x0 9) < (nI 1) then (f_9021_33 tab q1 x0) else (if ((q1).1 x0 9) ≤ (nI 11) then (f_9021_39 tab q1 x0 (((q1).1 x0 9))) else (f_9021_33 tab q1 x0)))) (gd (px_obj (px_lay tab x0) 9) ((f_9018 tab q1 x0 ((nI 2))).bind fun q3 => gd (q3.1 = nI 0 ∨ q3.1 = nI 1) (some ((q3.1, q3.2)))))))
def kp_9021_64 (Q : Nat → Int32 → Int32 → px_M → Prop) : px_P := fun ls st τ => st = [] ∧ kN ls (fun x0 ls => kI ls (fun x1 ls => kI ls (fun x2 ls => kE ls (Q x0 x1 x2 τ))))
theorem kq_9021_64 {C : px_C} {k : Option px_V → px_M → Prop} {Q : Nat → Int32 → Int32 → px_M → Prop} (H : ∀ (x0 : Nat) (x1 : Int32) (x2 : Int32) (τ : px_M), Q x0 x1 x2 τ → px_W C k 64 [some (.inr (.inr (some x0))), some (.inl x1), some (.inl x2)] [] τ) : ∀ ls st τ, kp_9021_64 Q ls st τ → px_W C k 64 ls st τ := by
  intro ls st τ hz
  obtain ⟨ez, h0⟩ := hz
  obtain ⟨x0, l0, e0, h1⟩ := kN_sp h0
  obtain ⟨x1, l1, e1, h2⟩ := kI_sp h1
  obtain ⟨x2, l2, e2, h3⟩ := kI_sp h2
  obtain ⟨ey, hy⟩ := kE_sp h3
  subst ez
  subst ey
  subst e2
  subst e1
  subst e0
  exact H x0 x1 x2 τ hy
def kp_9021_39 (Q : Nat → Int32 → px_M → Prop) : px_P := fun ls st τ => st = [] ∧ kN ls (fun x0 ls => kI ls (fun x1 ls => kZ ls (fun ls => kE ls (Q x0 x1 τ))))
theorem kq_9021_39 {C : px_C} {k : Option px_V → px_M → Prop} {Q : Nat → Int32 → px_M → Prop} (H : ∀ (x0 : Nat) (x1 : Int32) (τ : px_M), Q x0 x1 τ → ∀ (z2 : Option px_V), px_W C k 39 [some (.inr (.inr (some x0))), some (.inl x1), z2] [] τ) : ∀ ls st τ, kp_9021_39 Q ls st τ → px_W C k 39 ls st τ := by
  intro ls st τ hz
  obtain ⟨ez, h0⟩ := hz
  obtain ⟨x0, l0, e0, h1⟩ := kN_sp h0
  obtain ⟨x1, l1, e1, h2⟩ := kI_sp h1
  obtain ⟨z2, l2, e2, h3⟩ := kZ_sp h2
  obtain ⟨ey, hy⟩ := kE_sp h3
  subst ez
  subst ey
  subst e2
  subst e1
  subst e0
  exact H x0 x1 τ hy z2
def kp_9021_33 (Q : Nat → px_M → Prop) : px_P := fun ls st τ => st = [] ∧ kN ls (fun x0 ls => kZ ls (fun ls => kZ ls (fun ls => kE ls (Q x0 τ))))
theorem kq_9021_33 {C : px_C} {k : Option px_V → px_M → Prop} {Q : Nat → px_M → Prop} (H : ∀ (x0 : Nat) (τ : px_M), Q x0 τ → ∀ (z1 : Option px_V) (z2 : Option px_V), px_W C k 33 [some (.inr (.inr (some x0))), z1, z2] [] τ) : ∀ ls st τ, kp_9021_33 Q ls st τ → px_W C k 33 ls st τ := by
  intro ls st τ hz
  obtain ⟨ez, h0⟩ := hz
  obtain ⟨x0, l0, e0, h1⟩ := kN_sp h0
  obtain ⟨z1, l1, e1, h2⟩ := kZ_sp h1
  obtain ⟨z2, l2, e2, h3⟩ := kZ_sp h2
  obtain ⟨ey, hy⟩ := kE_sp h3
  subst ez
  subst ey
  subst e2
  subst e1
  subst e0
  exact H x0 τ hy z1 z2
set_option maxHeartbeats 4000000 in
set_option maxRecDepth 100000 in
theorem rl_9021_64 {C : px_C} (hn : px_nd (px_tb C)) {h : Nat} (hh : 5 ≤ h) (hC : px_ok C pn_i9021 h) {k : Option px_V → px_M → Prop} {x0 : Nat} {x1 : Int32} : ∀ s : Int32 × px_M, oW (f_9021_64 (px_tb C) x0 x1 s.1 s.2) (fun q => k (some (.inl q.1)) q.2) → (fun s : Int32 × px_M => px_W C k 64 [some (.inr (.inr (some x0))), some (.inl x1), some (.inl s.1)] [] s.2) s := by
  intro s h0
  refine lpO_sound (P := (fun s : Int32 × px_M => px_W C k 64 [some (.inr (.inr (some x0))), some (.inl x1), some (.inl s.1)] [] s.2)) (fun s hs => ?_) h0
  obtain ⟨x2, σ⟩ := s
  refine px_runG (h - 1) ck_9021 [(9015, Sg_9015 (f_9015 (px_tb C))), (11011, Sg_11011 (f_11011 (px_tb C)))] [(64, kp_9021_64 (fun y0 y1 y2 τ => y0 = x0 ∧ y1 = x1 ∧ (fun s : Int32 × px_M => px_W C k 64 [some (.inr (.inr (some x0))), some (.inl x1), some (.inl s.1)] [] s.2) (y2, τ)))] 80 hC (px_sp1 (mf_9015 hn (by omega)) (px_sp1 (mf_11011 hn (by omega)) px_nosp)) (by omega) (px_cut1 (kq_9021_64 (fun y0 y1 y2 τ hq => by obtain ⟨rfl, rfl, hq⟩ := hq; exact hq)) px_nocut) (fun G Jf hG hJf => ?_)
  simp only [F_9021_64, oW_some, oW_none, oW_bind, oW_map, oW_ite, oW_bn, oW_gd, oW_oA, Sum.elim_inl, Sum.elim_inr, oW_and, true_and, and_true, false_and, and_false, true_or, or_true, false_or, or_false, and_self, or_self, not_false_eq_true, not_true_eq_false, false_implies, forall_const, true_implies, eq_self, ↓reduceIte] at hs
  simp only [↓hG, ↓hJf, ↓px_vc, ↓px_ex, ↓px_jp, ↓px_gi, ↓px_gl, ↓px_gr, ↓px_s1, ↓px_s2, ↓px_nl, ↓px_i1, ↓px_l1, ↓px_r1_o, ↓px_q1, ↓px_i2, ↓px_l2, ↓px_il, ↓px_d0, ↓px_d1, ↓px_d2, ↓px_pop, px_sz, ↓px_sp, ↓px_rd, ↓px_rf, ↓pn_xf, ↓px_pt, ↓px_rok, ↓px_rv_o, ↓px_fill, ↓px_sl, ↓px_sw, ↓pn_SW, lc_lt, lc_ge, lc_gt, lc_le, lc_eq, ↓reduceIte, Nat.reduceEqDiff, Nat.reduceLeDiff, Nat.reduceAdd, Nat.reduceSub, reduceCtorEq, List.length_cons, List.length_nil, Option.toList_some, Option.toList_none, List.cons_append, List.nil_append, true_and, and_true, false_and, and_false, true_or, or_true, false_or, or_false, and_self, or_self, not_false_eq_true, not_true_eq_false, false_implies, forall_const, true_implies, eq_self, ↓kI_s, ↓kJ_s, ↓kN_s, ↓kO_s, ↓kZ_s, ↓kE_s, oW_and, ↓bk_9021, ↓pn_i9021, oW_some, oW_none, oW_bind, oW_map, oW_ite, oW_bn, oW_gd, oW_oA, Sum.elim_inl, Sum.elim_inr, ↓Sg_9015, ↓Sg_11011, ↓kp_9021_64]
  exact hs
set_option maxHeartbeats 4000000 in
set_option maxRecDepth 100000 in
theorem rl_9021_39 {C : px_C} (hn : px_nd (px_tb C)) {h : Nat} (hh : 5 ≤ h) (hC : px_ok C pn_i9021 h) {k : Option px_V → px_M → Prop} {x0 : Nat} {x1 : Int32} {σ : px_M} (hs : oW (f_9021_39 (px_tb C) σ x0 x1) (fun q => k (some (.inl q.1)) q.2)) : ∀ (z2 : Option px_V), px_W C k 39 [some (.inr (.inr (some x0))), some (.inl x1), z2] [] σ := by
  intro z2
  refine px_runG (h - 1) ck_9021 [(9018, Sg_9018 (f_9018 (px_tb C)))] [(64, kp_9021_64 (fun y0 y1 y2 τ => oW (f_9021_64 (px_tb C) y0 y1 y2 τ) (fun q => k (some (.inl q.1)) q.2)))] 80 hC (px_sp1 (mf_9018 hn (by omega)) px_nosp) (by omega) (px_cut1 (kq_9021_64 (fun y0 y1 y2 τ hq => by exact rl_9021_64 hn (by omega) hC (y2, τ) hq)) px_nocut) (fun G Jf hG hJf => ?_)
  simp only [f_9021_39, oW_some, oW_none, oW_bind, oW_map, oW_ite, oW_bn, oW_gd, oW_oA, Sum.elim_inl, Sum.elim_inr, oW_and, true_and, and_true, false_and, and_false, true_or, or_true, false_or, or_false, and_self, or_self, not_false_eq_true, not_true_eq_false, false_implies, forall_const, true_implies, eq_self, ↓reduceIte] at hs
  simp only [↓hG, ↓hJf, ↓px_vc, ↓px_ex, ↓px_jp, ↓px_gi, ↓px_gl, ↓px_gr, ↓px_s1, ↓px_s2, ↓px_nl, ↓px_i1, ↓px_l1, ↓px_r1_o, ↓px_q1, ↓px_i2, ↓px_l2, ↓px_il, ↓px_d0, ↓px_d1, ↓px_d2, ↓px_pop, px_sz, ↓px_sp, ↓px_rd, ↓px_rf, ↓pn_xf, ↓px_pt, ↓px_rok, ↓px_rv_o, ↓px_fill, ↓px_sl, ↓px_sw, ↓pn_SW, lc_lt, lc_ge, lc_gt, lc_le, lc_eq, ↓reduceIte, Nat.reduceEqDiff, Nat.reduceLeDiff, Nat.reduceAdd, Nat.reduceSub, reduceCtorEq, List.length_cons, List.length_nil, Option.toList_some, Option.toList_none, List.cons_append, List.nil_append, true_and, and_true, false_and, and_false, true_or, or_true, false_or, or_false, and_self, or_self, not_false_eq_true, not_true_eq_false, false_implies, forall_const, true_implies, eq_self, ↓kI_s, ↓kJ_s, ↓kN_s, ↓kO_s, ↓kZ_s, ↓kE_s, oW_and, ↓bk_9021, ↓pn_i9021, oW_some, oW_none, oW_bind, oW_map, oW_ite, oW_bn, oW_gd, oW_oA, Sum.elim_inl, Sum.elim_inr, ↓Sg_9018, ↓kp_9021_64]
  exact hs
set_option maxHeartbeats 4000000 in
set_option maxRecDepth 100000 in
theorem rl_9021_33 {C : px_C} (hn : px_nd (px_tb C)) {h : Nat} (hh : 5 ≤ h) (hC : px_ok C pn_i9021 h) {k : Option px_V → px_M → Prop} {x0 : Nat} {σ : px_M} (hs : oW (f_9021_33 (px_tb C) σ x0) (fun q => k (some (.inl q.1)) q.2)) : ∀ (z1 : Option px_V) (z2 : Option px_V), px_W C k 33 [some (.inr (.inr (some x0))), z1, z2] [] σ := by
  intro z1 z2
  refine px_runG (h - 1) ck_9021 [(9018, Sg_9018 (f_9018 (px_tb C)))] [] 80 hC (px_sp1 (mf_9018 hn (by omega)) px_nosp) (by omega) px_nocut (fun G Jf hG hJf => ?_)
  simp only [f_9021_33, oW_some, oW_none, oW_bind, oW_map, oW_ite, oW_bn, oW_gd, oW_oA, Sum.elim_inl, Sum.elim_inr, oW_and, true_and, and_true, false_and, and_false, true_or, or_true, false_or, or_false, and_self, or_self, not_false_eq_true, not_true_eq_false, false_implies, forall_const, true_implies, eq_self, ↓reduceIte] at hs
  simp only [↓hG, ↓hJf, ↓px_vc, ↓px_ex, ↓px_jp, ↓px_gi, ↓px_gl, ↓px_gr, ↓px_s1, ↓px_s2, ↓px_nl, ↓px_i1, ↓px_l1, ↓px_r1_o, ↓px_q1, ↓px_i2, ↓px_l2, ↓px_il, ↓px_d0, ↓px_d1, ↓px_d2, ↓px_pop, px_sz, ↓px_sp, ↓px_rd, ↓px_rf, ↓pn_xf, ↓px_pt, ↓px_rok, ↓px_rv_o, ↓px_fill, ↓px_sl, ↓px_sw, ↓pn_SW, lc_lt, lc_ge, lc_gt, lc_le, lc_eq, ↓reduceIte, Nat.reduceEqDiff, Nat.reduceLeDiff, Nat.reduceAdd, Nat.reduceSub, reduceCtorEq, List.length_cons, List.length_nil, Option.toList_some, Option.toList_none, List.cons_append, List.nil_append, true_and, and_true, false_and, and_false, true_or, or_true, false_or, or_false, and_self, or_self, not_false_eq_true, not_true_eq_false, false_implies, forall_const, true_implies, eq_self, ↓kI_s, ↓kJ_s, ↓kN_s, ↓kO_s, ↓kZ_s, ↓kE_s, oW_and, ↓bk_9021, ↓pn_i9021, oW_some, oW_none, oW_bind, oW_map, oW_ite, oW_bn, oW_gd, oW_oA, Sum.elim_inl, Sum.elim_inr, ↓Sg_9018]
  exact hs
set_option maxHeartbeats 4000000 in
set_option maxRecDepth 100000 in
theorem mf_9021 {tab : px_T} (hn : px_nd tab) {h : Nat} (hh : 5 ≤ h) : px_Ok tab pn_i9021 h (Sg_9021 (f_9021 tab)) := by
  refine px_mth hn (by decide +kernel) (fun av σ k hS => ?_) (fun C hT hC av σ k hS => ?_)
  · obtain ⟨x0, av0, e0, h0⟩ := px_r1_spec hS
    obtain ⟨ez, hz⟩ := h0
    subst ez
    subst e0
    exact Nat.le_of_ble_eq_true rfl
  · obtain ⟨x0, av0, e0, h0⟩ := px_r1_spec hS
    obtain ⟨ez, hz⟩ := h0
    subst ez
    subst e0
    subst hT
    refine px_runG (h - 1) ck_9021 [(9015, Sg_9015 (f_9015 (px_tb C))), (9016, Sg_9016 (f_9016 (px_tb C))), (9018, Sg_9018 (f_9018 (px_tb C)))] [(33, kp_9021_33 (fun y0 τ => oW (f_9021_33 (px_tb C) τ y0) (fun q => k (some (.inl q.1)) q.2))), (39, kp_9021_39 (fun y0 y1 τ => oW (f_9021_39 (px_tb C) τ y0 y1) (fun q => k (some (.inl q.1)) q.2)))] 80 hC (px_sp1 (mf_9015 hn (by omega)) (px_sp1 (mf_9016 hn (by omega)) (px_sp1 (mf_9018 hn (by omega)) px_nosp))) (by omega) (px_cut1 (kq_9021_33 (fun y0 τ hq => by exact rl_9021_33 hn (by omega) hC  hq)) (px_cut1 (kq_9021_39 (fun y0 y1 τ hq => by exact rl_9021_39 hn (by omega) hC  hq)) px_nocut)) (fun G Jf hG hJf => ?_)
    simp only [f_9021, oW_some, oW_none, oW_bind, oW_map, oW_ite, oW_bn, oW_gd, oW_oA, Sum.elim_inl, Sum.elim_inr, oW_and, true_and, and_true, false_and, and_false, true_or, or_true, false_or, or_false, and_self, or_self, not_false_eq_true, not_true_eq_false, false_implies, forall_const, true_implies, eq_self, ↓reduceIte] at hz
    simp only [↓hG, ↓hJf, ↓px_vc, ↓px_ex, ↓px_jp, ↓px_gi, ↓px_gl, ↓px_gr, ↓px_s1, ↓px_s2, ↓px_nl, ↓px_i1, ↓px_l1, ↓px_r1_o, ↓px_q1, ↓px_i2, ↓px_l2, ↓px_il, ↓px_d0, ↓px_d1, ↓px_d2, ↓px_pop, px_sz, ↓px_sp, ↓px_rd, ↓px_rf, ↓pn_xf, ↓px_pt, ↓px_rok, ↓px_rv_o, ↓px_fill, ↓px_sl, ↓px_sw, ↓pn_SW, lc_lt, lc_ge, lc_gt, lc_le, lc_eq, ↓reduceIte, Nat.reduceEqDiff, Nat.reduceLeDiff, Nat.reduceAdd, Nat.reduceSub, reduceCtorEq, List.length_cons, List.length_nil, Option.toList_some, Option.toList_none, List.cons_append, List.nil_append, true_and, and_true, false_and, and_false, true_or, or_true, false_or, or_false, and_self, or_self, not_false_eq_true, not_true_eq_false, false_implies, forall_const, true_implies, eq_self, ↓kI_s, ↓kJ_s, ↓kN_s, ↓kO_s, ↓kZ_s, ↓kE_s, oW_and, ↓bk_9021, ↓pn_i9021, oW_some, oW_none, oW_bind, oW_map, oW_ite, oW_bn, oW_gd, oW_oA, Sum.elim_inl, Sum.elim_inr, ↓Sg_9015, ↓Sg_9016, ↓Sg_9018, ↓kp_9021_33, ↓kp_9021_39]
    exact hz
def Sg_9020 (g : px_M → Nat → Option (Int32 × px_M)) : px_S := fun av σ k => px_r1 av (fun x0 av => av = [] ∧ oW (g σ x0) (fun q => k (some (.inl q.1)) q.2))
/-- NoThree$Reader.isHouseHere()Z -/
noncomputable def f_9020_42 (tab : px_T) (σ : px_M) : Option (Int32 × px_M) := some (((nI 0), σ))
noncomputable def f_9020_38 (tab : px_T) (σ : px_M) : Option (Int32 × px_M) := some (((nI 1), σ))
noncomputable def f_9020 (tab : px_T) (σ : px_M) (x0 : Nat) : Option (Int32 × px_M) := gd (px_obj (px_lay tab x0) 9) ((f_9016 tab σ x0).bind fun r1 => bn (r1 = nI 0) (gd (px_obj (px_lay tab x0) 9) ((((σ).2.2 x0 3)).bind fun n2 => gd (px_obj (px_lay tab n2) 1) (gd (px_obj (px_lay tab x0) 9) ((((σ).2.2 n2 0)).bind fun n3 => gd (px_obj (px_lay tab n3) 11) ((f_11002 tab σ n3 (((σ).1 x0 9))).bind fun r4 => bn (r4 = nI 0) (f_9020_38 tab σ) (gd (px_obj (px_lay tab x0) 9) ((f_9018 tab σ x0 ((nI 3))).bind fun q5 => if q5.1 = nI 0 then (f_9020_42 tab q5.2) else (f_9020_38 tab q5.2)))))))) (gd (px_obj (px_lay tab x0) 9) ((f_9018 tab σ x0 ((nI 2))).bind fun q6 => gd (q6.1 = nI 0 ∨ q6.1 = nI 1) (some ((q6.1, q6.2))))))
def kp_9020_42 (Q : px_M → Prop) : px_P := fun ls st τ => st = [] ∧ kZ ls (fun ls => kE ls (Q τ))
theorem kq_9020_42 {C : px_C} {k : Option px_V → px_M → Prop} {Q : px_M → Prop} (H : ∀ (τ : px_M), Q τ → ∀ (z0 : Option px_V), px_W C k 42 [z0] [] τ) : ∀ ls st τ, kp_9020_42 Q ls st τ → px_W C k 42 ls st τ := by
  intro ls st τ hz
  obtain ⟨ez, h0⟩ := hz
  obtain ⟨z0, l0, e0, h1⟩ := kZ_sp h0
  obtain ⟨ey, hy⟩ := kE_sp h1
  subst ez
  subst ey
  subst e0
  exact H τ hy z0
def kp_9020_38 (Q : px_M → Prop) : px_P := fun ls st τ => st = [] ∧ kZ ls (fun ls => kE ls (Q τ))
theorem kq_9020_38 {C : px_C} {k : Option px_V → px_M → Prop} {Q : px_M → Prop} (H : ∀ (τ : px_M), Q τ → ∀ (z0 : Option px_V), px_W C k 38 [z0] [] τ) : ∀ ls st τ, kp_9020_38 Q ls st τ → px_W C k 38 ls st τ := by
  intro ls st τ hz
  obtain ⟨ez, h0⟩ := hz
  obtain ⟨z0, l0, e0, h1⟩ := kZ_sp h0
  obtain ⟨ey, hy⟩ := kE_sp h1
  subst ez
  subst ey
  subst e0
  exact H τ hy z0
set_option maxHeartbeats 4000000 in
set_option maxRecDepth 100000 in
theorem rl_9020_42 {C : px_C} (hn : px_nd (px_tb C)) {h : Nat} (hh : 2 ≤ h) (hC : px_ok C pn_i9020 h) {k : Option px_V → px_M → Prop} {σ : px_M} (hs : oW (f_9020_42 (px_tb C) σ) (fun q => k (some (.inl q.1)) q.2)) : ∀ (z0 : Option px_V), px_W C k 42 [z0] [] σ := by
  intro z0
  refine px_runG (h - 1) ck_9020 [] [] 80 hC px_nosp (by omega) px_nocut (fun G Jf hG hJf => ?_)
  simp only [f_9020_42, oW_some, oW_none, oW_bind, oW_map, oW_ite, oW_bn, oW_gd, oW_oA, Sum.elim_inl, Sum.elim_inr, oW_and, true_and, and_true, false_and, and_false, true_or, or_true, false_or, or_false, and_self, or_self, not_false_eq_true, not_true_eq_false, false_implies, forall_const, true_implies, eq_self, ↓reduceIte] at hs
  simp only [↓hG, ↓hJf, ↓px_vc, ↓px_ex, ↓px_jp, ↓px_gi, ↓px_gl, ↓px_gr, ↓px_s1, ↓px_s2, ↓px_nl, ↓px_i1, ↓px_l1, ↓px_r1_o, ↓px_q1, ↓px_i2, ↓px_l2, ↓px_il, ↓px_d0, ↓px_d1, ↓px_d2, ↓px_pop, px_sz, ↓px_sp, ↓px_rd, ↓px_rf, ↓pn_xf, ↓px_pt, ↓px_rok, ↓px_rv_o, ↓px_fill, ↓px_sl, ↓px_sw, ↓pn_SW, lc_lt, lc_ge, lc_gt, lc_le, lc_eq, ↓reduceIte, Nat.reduceEqDiff, Nat.reduceLeDiff, Nat.reduceAdd, Nat.reduceSub, reduceCtorEq, List.length_cons, List.length_nil, Option.toList_some, Option.toList_none, List.cons_append, List.nil_append, true_and, and_true, false_and, and_false, true_or, or_true, false_or, or_false, and_self, or_self, not_false_eq_true, not_true_eq_false, false_implies, forall_const, true_implies, eq_self, ↓kI_s, ↓kJ_s, ↓kN_s, ↓kO_s, ↓kZ_s, ↓kE_s, oW_and, ↓bk_9020, ↓pn_i9020, oW_some, oW_none, oW_bind, oW_map, oW_ite, oW_bn, oW_gd, oW_oA, Sum.elim_inl, Sum.elim_inr]
  exact hs
set_option maxHeartbeats 4000000 in
set_option maxRecDepth 100000 in
theorem rl_9020_38 {C : px_C} (hn : px_nd (px_tb C)) {h : Nat} (hh : 2 ≤ h) (hC : px_ok C pn_i9020 h) {k : Option px_V → px_M → Prop} {σ : px_M} (hs : oW (f_9020_38 (px_tb C) σ) (fun q => k (some (.inl q.1)) q.2)) : ∀ (z0 : Option px_V), px_W C k 38 [z0] [] σ := by
  intro z0
  refine px_runG (h - 1) ck_9020 [] [] 80 hC px_nosp (by omega) px_nocut (fun G Jf hG hJf => ?_)
  simp only [f_9020_38, oW_some, oW_none, oW_bind, oW_map, oW_ite, oW_bn, oW_gd, oW_oA, Sum.elim_inl, Sum.elim_inr, oW_and, true_and, and_true, false_and, and_false, true_or, or_true, false_or, or_false, and_self, or_self, not_false_eq_true, not_true_eq_false, false_implies, forall_const, true_implies, eq_self, ↓reduceIte] at hs
  simp only [↓hG, ↓hJf, ↓px_vc, ↓px_ex, ↓px_jp, ↓px_gi, ↓px_gl, ↓px_gr, ↓px_s1, ↓px_s2, ↓px_nl, ↓px_i1, ↓px_l1, ↓px_r1_o, ↓px_q1, ↓px_i2, ↓px_l2, ↓px_il, ↓px_d0, ↓px_d1, ↓px_d2, ↓px_pop, px_sz, ↓px_sp, ↓px_rd, ↓px_rf, ↓pn_xf, ↓px_pt, ↓px_rok, ↓px_rv_o, ↓px_fill, ↓px_sl, ↓px_sw, ↓pn_SW, lc_lt, lc_ge, lc_gt, lc_le, lc_eq, ↓reduceIte, Nat.reduceEqDiff, Nat.reduceLeDiff, Nat.reduceAdd, Nat.reduceSub, reduceCtorEq, List.length_cons, List.length_nil, Option.toList_some, Option.toList_none, List.cons_append, List.nil_append, true_and, and_true, false_and, and_false, true_or, or_true, false_or, or_false, and_self, or_self, not_false_eq_true, not_true_eq_false, false_implies, forall_const, true_implies, eq_self, ↓kI_s, ↓kJ_s, ↓kN_s, ↓kO_s, ↓kZ_s, ↓kE_s, oW_and, ↓bk_9020, ↓pn_i9020, oW_some, oW_none, oW_bind, oW_map, oW_ite, oW_bn, oW_gd, oW_oA, Sum.elim_inl, Sum.elim_inr]
  exact hs
set_option maxHeartbeats 4000000 in
set_option maxRecDepth 100000 in
theorem mf_9020 {tab : px_T} (hn : px_nd tab) {h : Nat} (hh : 2 ≤ h) : px_Ok tab pn_i9020 h (Sg_9020 (f_9020 tab)) := by
  refine px_mth hn (by decide +kernel) (fun av σ k hS => ?_) (fun C hT hC av σ k hS => ?_)
  · obtain ⟨x0, av0, e0, h0⟩ := px_r1_spec hS
    obtain ⟨ez, hz⟩ := h0
    subst ez
    subst e0
    exact Nat.le_of_ble_eq_true rfl
  · obtain ⟨x0, av0, e0, h0⟩ := px_r1_spec hS
    obtain ⟨ez, hz⟩ := h0
    subst ez
    subst e0
    subst hT
    refine px_runG (h - 1) ck_9020 [(9016, Sg_9016 (f_9016 (px_tb C))), (9018, Sg_9018 (f_9018 (px_tb C))), (11002, Sg_11002 (f_11002 (px_tb C)))] [(38, kp_9020_38 (fun τ => oW (f_9020_38 (px_tb C) τ) (fun q => k (some (.inl q.1)) q.2))), (42, kp_9020_42 (fun τ => oW (f_9020_42 (px_tb C) τ) (fun q => k (some (.inl q.1)) q.2)))] 80 hC (px_sp1 (mf_9016 hn (by omega)) (px_sp1 (mf_9018 hn (by omega)) (px_sp1 (mf_11002 hn (by omega)) px_nosp))) (by omega) (px_cut1 (kq_9020_38 (fun τ hq => by exact rl_9020_38 hn (by omega) hC  hq)) (px_cut1 (kq_9020_42 (fun τ hq => by exact rl_9020_42 hn (by omega) hC  hq)) px_nocut)) (fun G Jf hG hJf => ?_)
    simp only [f_9020, oW_some, oW_none, oW_bind, oW_map, oW_ite, oW_bn, oW_gd, oW_oA, Sum.elim_inl, Sum.elim_inr, oW_and, true_and, and_true, false_and, and_false, true_or, or_true, false_or, or_false, and_self, or_self, not_false_eq_true, not_true_eq_false, false_implies, forall_const, true_implies, eq_self, ↓reduceIte] at hz
    simp only [↓hG, ↓hJf, ↓px_vc, ↓px_ex, ↓px_jp, ↓px_gi, ↓px_gl, ↓px_gr, ↓px_s1, ↓px_s2, ↓px_nl, ↓px_i1, ↓px_l1, ↓px_r1_o, ↓px_q1, ↓px_i2, ↓px_l2, ↓px_il, ↓px_d0, ↓px_d1, ↓px_d2, ↓px_pop, px_sz, ↓px_sp, ↓px_rd, ↓px_rf, ↓pn_xf, ↓px_pt, ↓px_rok, ↓px_rv_o, ↓px_fill, ↓px_sl, ↓px_sw, ↓pn_SW, lc_lt, lc_ge, lc_gt, lc_le, lc_eq, ↓reduceIte, Nat.reduceEqDiff, Nat.reduceLeDiff, Nat.reduceAdd, Nat.reduceSub, reduceCtorEq, List.length_cons, List.length_nil, Option.toList_some, Option.toList_none, List.cons_append, List.nil_append, true_and, and_true, false_and, and_false, true_or, or_true, false_or, or_false, and_self, or_self, not_false_eq_true, not_true_eq_false, false_implies, forall_const, true_implies, eq_self, ↓kI_s, ↓kJ_s, ↓kN_s, ↓kO_s, ↓kZ_s, ↓kE_s, oW_and, ↓bk_9020, ↓pn_i9020, oW_some, oW_none, oW_bind, oW_map, oW_ite, oW_bn, oW_gd, oW_oA, Sum.elim_inl, Sum.elim_inr, ↓Sg_9016, ↓Sg_9018, ↓Sg_11002, ↓kp_9020_38, ↓kp_9020_42]
    exact hz
def Sg_9022 (g : px_M → Nat → Option (Int32 × px_M)) : px_S := fun av σ k => px_r1 av (fun x0 av => av = [] ∧ oW (g σ x0) (fun q => k (some (.inl q.1)) q.2))
/-- NoThree$Reader.readDoor()Z -/
noncomputable def f_9022_63 (tab : px_T) (σ : px_M) (x0 : Nat) (x1 : Int32) : Option (Int32 × px_M) := gd (px_obj (px_lay tab x0) 9) ((((σ).2.2 x0 3)).bind fun n1 => gd (px_obj (px_lay tab n1) 1) (gd (px_obj (px_lay tab x0) 9) ((((σ).2.2 n1 0)).bind fun n2 => gd (px_obj (px_lay tab n2) 11) ((f_11009 tab σ n2 x1 (((σ).1 x0 9))).bind fun q3 => gd (px_obj (px_lay tab x0) 9) ((f_9015 tab q3 x0).bind fun q4 => some (((nI 1), q4)))))))
noncomputable def f_9022_57 (tab : px_T) (σ : px_M) (x0 : Nat) : Option (Int32 × px_M) := gd (px_obj (px_lay tab x0) 9) ((f_9018 tab σ x0 ((nI 3))).bind fun q1 => gd (q1.1 = nI 0 ∨ q1.1 = nI 1) (some ((q1.1, q1.2))))
noncomputable def f_9022_22 (tab : px_T) (σ : px_M) (x0 : Nat) (x1 : Int32) : Option (Int32 × px_M) := gd (px_obj (px_lay tab x0) 9) ((f_9020 tab σ x0).bind fun q1 => bn (q1.1 = nI 0) (gd (px_obj (px_lay tab x0) 9) (if ((q1.2).1 x0 9) = x1 then (f_9022_57 tab q1.2 x0) else (gd (px_obj (px_lay tab x0) 9) ((((q1.2).2.2 x0 3)).bind fun n2 => gd (px_obj (px_lay tab n2) 1) (gd (px_obj (px_lay tab x0) 9) ((((q1.2).2.2 n2 0)).bind fun n3 => gd (px_obj (px_lay tab n3) 11) ((f_11006 tab q1.2 n3 x1 (((q1.2).1 x0 9))).bind fun r4 => if r4 = nI 0 then (f_9022_63 tab q1.2 x0 x1) else (f_9022_57 tab q1.2 x0)))))))) (some (((nI 0), q1.2))))
noncomputable def f_9022 (tab : px_T) (σ : px_M) (x0 : Nat) : Option (Int32 × px_M) := gd (px_obj (px_lay tab x0) 9) ((f_9015 tab σ x0).bind fun q1 => gd (px_obj (px_lay tab x0) 9) ((f_9020 tab q1 x0).bind fun q2 => bn (q2.1 = nI 0) (gd (px_obj (px_lay tab x0) 9) (gd (px_obj (px_lay tab x0) 9) ((f_9015 tab q2.2 x0).bind fun q3 => f_9022_22 tab q3 x0 (((q2.2).1 x0 9))))) (some (((nI 0), q2.2)))))
def kp_9022_63 (Q : Nat → Int32 → px_M → Prop) : px_P := fun ls st τ => st = [] ∧ kN ls (fun x0 ls => kI ls (fun x1 ls => kE ls (Q x0 x1 τ)))
theorem kq_9022_63 {C : px_C} {k : Option px_V → px_M → Prop} {Q : Nat → Int32 → px_M → Prop} (H : ∀ (x0 : Nat) (x1 : Int32) (τ : px_M), Q x0 x1 τ → px_W C k 63 [some (.inr (.inr (some x0))), some (.inl x1)] [] τ) : ∀ ls st τ, kp_9022_63 Q ls st τ → px_W C k 63 ls st τ := by
  intro ls st τ hz
  obtain ⟨ez, h0⟩ := hz
  obtain ⟨x0, l0, e0, h1⟩ := kN_sp h0
  obtain ⟨x1, l1, e1, h2⟩ := kI_sp h1
  obtain ⟨ey, hy⟩ := kE_sp h2
  subst ez
  subst ey
  subst e1
  subst e0
  exact H x0 x1 τ hy
def kp_9022_57 (Q : Nat → px_M → Prop) : px_P := fun ls st τ => st = [] ∧ kN ls (fun x0 ls => kZ ls (fun ls => kE ls (Q x0 τ)))
theorem kq_9022_57 {C : px_C} {k : Option px_V → px_M → Prop} {Q : Nat → px_M → Prop} (H : ∀ (x0 : Nat) (τ : px_M), Q x0 τ → ∀ (z1 : Option px_V), px_W C k 57 [some (.inr (.inr (some x0))), z1] [] τ) : ∀ ls st τ, kp_9022_57 Q ls st τ → px_W C k 57 ls st τ := by
  intro ls st τ hz
  obtain ⟨ez, h0⟩ := hz
  obtain ⟨x0, l0, e0, h1⟩ := kN_sp h0
  obtain ⟨z1, l1, e1, h2⟩ := kZ_sp h1
  obtain ⟨ey, hy⟩ := kE_sp h2
  subst ez
  subst ey
  subst e1
  subst e0
  exact H x0 τ hy z1
def kp_9022_22 (Q : Nat → Int32 → px_M → Prop) : px_P := fun ls st τ => st = [] ∧ kN ls (fun x0 ls => kI ls (fun x1 ls => kE ls (Q x0 x1 τ)))
theorem kq_9022_22 {C : px_C} {k : Option px_V → px_M → Prop} {Q : Nat → Int32 → px_M → Prop} (H : ∀ (x0 : Nat) (x1 : Int32) (τ : px_M), Q x0 x1 τ → px_W C k 22 [some (.inr (.inr (some x0))), some (.inl x1)] [] τ) : ∀ ls st τ, kp_9022_22 Q ls st τ → px_W C k 22 ls st τ := by
  intro ls st τ hz
  obtain ⟨ez, h0⟩ := hz
  obtain ⟨x0, l0, e0, h1⟩ := kN_sp h0
  obtain ⟨x1, l1, e1, h2⟩ := kI_sp h1
  obtain ⟨ey, hy⟩ := kE_sp h2
  subst ez
  subst ey
  subst e1
  subst e0
  exact H x0 x1 τ hy
set_option maxHeartbeats 4000000 in
set_option maxRecDepth 100000 in
theorem rl_9022_63 {C : px_C} (hn : px_nd (px_tb C)) {h : Nat} (hh : 4 ≤ h) (hC : px_ok C pn_i9022 h) {k : Option px_V → px_M → Prop} {x0 : Nat} {x1 : Int32} {σ : px_M} (hs : oW (f_9022_63 (px_tb C) σ x0 x1) (fun q => k (some (.inl q.1)) q.2)) : px_W C k 63 [some (.inr (.inr (some x0))), some (.inl x1)] [] σ := by
  refine px_runG (h - 1) ck_9022 [(9015, Sg_9015 (f_9015 (px_tb C))), (11009, Sg_11009 (f_11009 (px_tb C)))] [] 80 hC (px_sp1 (mf_9015 hn (by omega)) (px_sp1 (mf_11009 hn (by omega)) px_nosp)) (by omega) px_nocut (fun G Jf hG hJf => ?_)
  simp only [f_9022_63, oW_some, oW_none, oW_bind, oW_map, oW_ite, oW_bn, oW_gd, oW_oA, Sum.elim_inl, Sum.elim_inr, oW_and, true_and, and_true, false_and, and_false, true_or, or_true, false_or, or_false, and_self, or_self, not_false_eq_true, not_true_eq_false, false_implies, forall_const, true_implies, eq_self, ↓reduceIte] at hs
  simp only [↓hG, ↓hJf, ↓px_vc, ↓px_ex, ↓px_jp, ↓px_gi, ↓px_gl, ↓px_gr, ↓px_s1, ↓px_s2, ↓px_nl, ↓px_i1, ↓px_l1, ↓px_r1_o, ↓px_q1, ↓px_i2, ↓px_l2, ↓px_il, ↓px_d0, ↓px_d1, ↓px_d2, ↓px_pop, px_sz, ↓px_sp, ↓px_rd, ↓px_rf, ↓pn_xf, ↓px_pt, ↓px_rok, ↓px_rv_o, ↓px_fill, ↓px_sl, ↓px_sw, ↓pn_SW, lc_lt, lc_ge, lc_gt, lc_le, lc_eq, ↓reduceIte, Nat.reduceEqDiff, Nat.reduceLeDiff, Nat.reduceAdd, Nat.reduceSub, reduceCtorEq, List.length_cons, List.length_nil, Option.toList_some, Option.toList_none, List.cons_append, List.nil_append, true_and, and_true, false_and, and_false, true_or, or_true, false_or, or_false, and_self, or_self, not_false_eq_true, not_true_eq_false, false_implies, forall_const, true_implies, eq_self, ↓kI_s, ↓kJ_s, ↓kN_s, ↓kO_s, ↓kZ_s, ↓kE_s, oW_and, ↓bk_9022, ↓pn_i9022, oW_some, oW_none, oW_bind, oW_map, oW_ite, oW_bn, oW_gd, oW_oA, Sum.elim_inl, Sum.elim_inr, ↓Sg_9015, ↓Sg_11009]
  exact hs
set_option maxHeartbeats 4000000 in
set_option maxRecDepth 100000 in
theorem rl_9022_57 {C : px_C} (hn : px_nd (px_tb C)) {h : Nat} (hh : 4 ≤ h) (hC : px_ok C pn_i9022 h) {k : Option px_V → px_M → Prop} {x0 : Nat} {σ : px_M} (hs : oW (f_9022_57 (px_tb C) σ x0) (fun q => k (some (.inl q.1)) q.2)) : ∀ (z1 : Option px_V), px_W C k 57 [some (.inr (.inr (some x0))), z1] [] σ := by
  intro z1
  refine px_runG (h - 1) ck_9022 [(9018, Sg_9018 (f_9018 (px_tb C)))] [] 80 hC (px_sp1 (mf_9018 hn (by omega)) px_nosp) (by omega) px_nocut (fun G Jf hG hJf => ?_)
  simp only [f_9022_57, oW_some, oW_none, oW_bind, oW_map, oW_ite, oW_bn, oW_gd, oW_oA, Sum.elim_inl, Sum.elim_inr, oW_and, true_and, and_true, false_and, and_false, true_or, or_true, false_or, or_false, and_self, or_self, not_false_eq_true, not_true_eq_false, false_implies, forall_const, true_implies, eq_self, ↓reduceIte] at hs
  simp only [↓hG, ↓hJf, ↓px_vc, ↓px_ex, ↓px_jp, ↓px_gi, ↓px_gl, ↓px_gr, ↓px_s1, ↓px_s2, ↓px_nl, ↓px_i1, ↓px_l1, ↓px_r1_o, ↓px_q1, ↓px_i2, ↓px_l2, ↓px_il, ↓px_d0, ↓px_d1, ↓px_d2, ↓px_pop, px_sz, ↓px_sp, ↓px_rd, ↓px_rf, ↓pn_xf, ↓px_pt, ↓px_rok, ↓px_rv_o, ↓px_fill, ↓px_sl, ↓px_sw, ↓pn_SW, lc_lt, lc_ge, lc_gt, lc_le, lc_eq, ↓reduceIte, Nat.reduceEqDiff, Nat.reduceLeDiff, Nat.reduceAdd, Nat.reduceSub, reduceCtorEq, List.length_cons, List.length_nil, Option.toList_some, Option.toList_none, List.cons_append, List.nil_append, true_and, and_true, false_and, and_false, true_or, or_true, false_or, or_false, and_self, or_self, not_false_eq_true, not_true_eq_false, false_implies, forall_const, true_implies, eq_self, ↓kI_s, ↓kJ_s, ↓kN_s, ↓kO_s, ↓kZ_s, ↓kE_s, oW_and, ↓bk_9022, ↓pn_i9022, oW_some, oW_none, oW_bind, oW_map, oW_ite, oW_bn, oW_gd, oW_oA, Sum.elim_inl, Sum.elim_inr, ↓Sg_9018]
  exact hs
set_option maxHeartbeats 4000000 in
set_option maxRecDepth 100000 in
theorem rl_9022_22 {C : px_C} (hn : px_nd (px_tb C)) {h : Nat} (hh : 4 ≤ h) (hC : px_ok C pn_i9022 h) {k : Option px_V → px_M → Prop} {x0 : Nat} {x1 : Int32} {σ : px_M} (hs : oW (f_9022_22 (px_tb C) σ x0 x1) (fun q => k (some (.inl q.1)) q.2)) : px_W C k 22 [some (.inr (.inr (some x0))), some (.inl x1)] [] σ := by
  refine px_runG (h - 1) ck_9022 [(9020, Sg_9020 (f_9020 (px_tb C))), (11006, Sg_11006 (f_11006 (px_tb C)))] [(57, kp_9022_57 (fun y0 τ => oW (f_9022_57 (px_tb C) τ y0) (fun q => k (some (.inl q.1)) q.2))), (63, kp_9022_63 (fun y0 y1 τ => oW (f_9022_63 (px_tb C) τ y0 y1) (fun q => k (some (.inl q.1)) q.2)))] 80 hC (px_sp1 (mf_9020 hn (by omega)) (px_sp1 (mf_11006 hn (by omega)) px_nosp)) (by omega) (px_cut1 (kq_9022_57 (fun y0 τ hq => by exact rl_9022_57 hn (by omega) hC  hq)) (px_cut1 (kq_9022_63 (fun y0 y1 τ hq => by exact rl_9022_63 hn (by omega) hC  hq)) px_nocut)) (fun G Jf hG hJf => ?_)
  simp only [f_9022_22, oW_some, oW_none, oW_bind, oW_map, oW_ite, oW_bn, oW_gd, oW_oA, Sum.elim_inl, Sum.elim_inr, oW_and, true_and, and_true, false_and, and_false, true_or, or_true, false_or, or_false, and_self, or_self, not_false_eq_true, not_true_eq_false, false_implies, forall_const, true_implies, eq_self, ↓reduceIte] at hs
  simp only [↓hG, ↓hJf, ↓px_vc, ↓px_ex, ↓px_jp, ↓px_gi, ↓px_gl, ↓px_gr, ↓px_s1, ↓px_s2, ↓px_nl, ↓px_i1, ↓px_l1, ↓px_r1_o, ↓px_q1, ↓px_i2, ↓px_l2, ↓px_il, ↓px_d0, ↓px_d1, ↓px_d2, ↓px_pop, px_sz, ↓px_sp, ↓px_rd, ↓px_rf, ↓pn_xf, ↓px_pt, ↓px_rok, ↓px_rv_o, ↓px_fill, ↓px_sl, ↓px_sw, ↓pn_SW, lc_lt, lc_ge, lc_gt, lc_le, lc_eq, ↓reduceIte, Nat.reduceEqDiff, Nat.reduceLeDiff, Nat.reduceAdd, Nat.reduceSub, reduceCtorEq, List.length_cons, List.length_nil, Option.toList_some, Option.toList_none, List.cons_append, List.nil_append, true_and, and_true, false_and, and_false, true_or, or_true, false_or, or_false, and_self, or_self, not_false_eq_true, not_true_eq_false, false_implies, forall_const, true_implies, eq_self, ↓kI_s, ↓kJ_s, ↓kN_s, ↓kO_s, ↓kZ_s, ↓kE_s, oW_and, ↓bk_9022, ↓pn_i9022, oW_some, oW_none, oW_bind, oW_map, oW_ite, oW_bn, oW_gd, oW_oA, Sum.elim_inl, Sum.elim_inr, ↓Sg_9020, ↓Sg_11006, ↓kp_9022_57, ↓kp_9022_63]
  exact hs
set_option maxHeartbeats 4000000 in
set_option maxRecDepth 100000 in
theorem mf_9022 {tab : px_T} (hn : px_nd tab) {h : Nat} (hh : 4 ≤ h) : px_Ok tab pn_i9022 h (Sg_9022 (f_9022 tab)) := by
  refine px_mth hn (by decide +kernel) (fun av σ k hS => ?_) (fun C hT hC av σ k hS => ?_)
  · obtain ⟨x0, av0, e0, h0⟩ := px_r1_spec hS
    obtain ⟨ez, hz⟩ := h0
    subst ez
    subst e0
    exact Nat.le_of_ble_eq_true rfl
  · obtain ⟨x0, av0, e0, h0⟩ := px_r1_spec hS
    obtain ⟨ez, hz⟩ := h0
    subst ez
    subst e0
    subst hT
    refine px_runG (h - 1) ck_9022 [(9015, Sg_9015 (f_9015 (px_tb C))), (9020, Sg_9020 (f_9020 (px_tb C)))] [(22, kp_9022_22 (fun y0 y1 τ => oW (f_9022_22 (px_tb C) τ y0 y1) (fun q => k (some (.inl q.1)) q.2)))] 80 hC (px_sp1 (mf_9015 hn (by omega)) (px_sp1 (mf_9020 hn (by omega)) px_nosp)) (by omega) (px_cut1 (kq_9022_22 (fun y0 y1 τ hq => by exact rl_9022_22 hn (by omega) hC  hq)) px_nocut) (fun G Jf hG hJf => ?_)
    simp only [f_9022, oW_some, oW_none, oW_bind, oW_map, oW_ite, oW_bn, oW_gd, oW_oA, Sum.elim_inl, Sum.elim_inr, oW_and, true_and, and_true, false_and, and_false, true_or, or_true, false_or, or_false, and_self, or_self, not_false_eq_true, not_true_eq_false, false_implies, forall_const, true_implies, eq_self, ↓reduceIte] at hz
    simp only [↓hG, ↓hJf, ↓px_vc, ↓px_ex, ↓px_jp, ↓px_gi, ↓px_gl, ↓px_gr, ↓px_s1, ↓px_s2, ↓px_nl, ↓px_i1, ↓px_l1, ↓px_r1_o, ↓px_q1, ↓px_i2, ↓px_l2, ↓px_il, ↓px_d0, ↓px_d1, ↓px_d2, ↓px_pop, px_sz, ↓px_sp, ↓px_rd, ↓px_rf, ↓pn_xf, ↓px_pt, ↓px_rok, ↓px_rv_o, ↓px_fill, ↓px_sl, ↓px_sw, ↓pn_SW, lc_lt, lc_ge, lc_gt, lc_le, lc_eq, ↓reduceIte, Nat.reduceEqDiff, Nat.reduceLeDiff, Nat.reduceAdd, Nat.reduceSub, reduceCtorEq, List.length_cons, List.length_nil, Option.toList_some, Option.toList_none, List.cons_append, List.nil_append, true_and, and_true, false_and, and_false, true_or, or_true, false_or, or_false, and_self, or_self, not_false_eq_true, not_true_eq_false, false_implies, forall_const, true_implies, eq_self, ↓kI_s, ↓kJ_s, ↓kN_s, ↓kO_s, ↓kZ_s, ↓kE_s, oW_and, ↓bk_9022, ↓pn_i9022, oW_some, oW_none, oW_bind, oW_map, oW_ite, oW_bn, oW_gd, oW_oA, Sum.elim_inl, Sum.elim_inr, ↓Sg_9015, ↓Sg_9020, ↓kp_9022_22]
    exact hz
def Sg_9023 (g : px_M → Nat → Option (Int32 × px_M)) : px_S := fun av σ k => px_r1 av (fun x0 av => av = [] ∧ oW (g σ x0) (fun q => k (some (.inl q.1)) q.2))
/-- NoThree$Reader.readRing()Z -/
noncomputable def f_9023_107 (tab : px_T) (σ : px_M) (x0 : Nat) (x2 : Int32) (x3 : Int32) : Option (Int32 × px_M) := gd (px_obj (px_lay tab x0) 9) ((((σ).2.2 x0 3)).bind fun n1 => gd (px_obj (px_lay tab n1) 1) ((((σ).2.2 n1 0)).bind fun n2 => gd (px_obj (px_lay tab n2) 11) ((f_11009 tab σ n2 x3 x2).bind fun q3 => some (((nI 1), q3)))))
noncomputable def f_9023_92 (tab : px_T) (σ : px_M) (x0 : Nat) (x1 : Int32) (x2 : Int32) (x4 : Int32) : Option ((Int32 × Int32 × Int32 × px_M) ⊕ (Int32 × px_M)) := gd (px_obj (px_lay tab x0) 9) (gd (px_obj (px_lay tab x0) 9) ((f_9015 tab σ x0).bind fun q1 => some (.inl ((x1, ((σ).1 x0 9), (x4 + (nI 1)), q1)))))
noncomputable def f_9023_42 (tab : px_T) (σ : px_M) (x0 : Nat) (x1 : Int32) (x2 : Int32) (x3 : Int32) (x4 : Int32) : Option ((Int32 × Int32 × Int32 × px_M) ⊕ (Int32 × px_M)) := gd (px_obj (px_lay tab x0) 9) ((f_9020 tab σ x0).bind fun q1 => bn (q1.1 = nI 0) (gd (px_obj (px_lay tab x0) 9) (if (x1 &&& ((nI 1) <<< (((q1.2).1 x0 9) &&& 31))) = nI 0 then (gd (px_obj (px_lay tab x0) 9) (gd (px_obj (px_lay tab x0) 9) ((((q1.2).2.2 x0 3)).bind fun n2 => gd (px_obj (px_lay tab n2) 1) (gd (px_obj (px_lay tab x0) 9) ((((q1.2).2.2 n2 0)).bind fun n3 => gd (px_obj (px_lay tab n3) 11) ((f_11009 tab q1.2 n3 x3 (((q1.2).1 x0 9))).bind fun q4 => f_9023_92 tab q4 x0 ((x1 ||| ((nI 1) <<< (((q1.2).1 x0 9) &&& 31)))) x2 x4)))))) else (gd (px_obj (px_lay tab x0) 9) ((f_9018 tab q1.2 x0 ((nI 3))).bind fun q5 => gd (q5.1 = nI 0 ∨ q5.1 = nI 1) (some (.inr ((q5.1, q5.2)))))))) (some (.inr (((nI 0), q1.2)))))
noncomputable def F_9023_19 (tab : px_T) (x0 : Nat) (x2 : Int32) (x1 : Int32) (x3 : Int32) (x4 : Int32) (σ : px_M) : Option ((Int32 × Int32 × Int32 × px_M) ⊕ (Int32 × px_M)) := if (nI 11) < x4 then (Option.map Sum.inr (f_9023_107 tab σ x0 x2 x3)) else (if x4 < (nI 3) then (f_9023_42 tab σ x0 x1 x2 x3 x4) else (gd (px_obj (px_lay tab x0) 9) ((f_9016 tab σ x0).bind fun r1 => bn (r1 = nI 0) (f_9023_42 tab σ x0 x1 x2 x3 x4) (Option.map Sum.inr (f_9023_107 tab σ x0 x2 x3)))))
noncomputable def f_9023_19 (tab : px_T) (x0 : Nat) (x2 : Int32) (x1 : Int32) (x3 : Int32) (x4 : Int32) (σ : px_M) : Option (Int32 × px_M) := lpO (fun s : Int32 × Int32 × Int32 × px_M => F_9023_19 tab x0 x2 s.1 s.2.1 s.2.2.1 s.2.2.2) (x1, x3, x4, σ)
theorem f_9023_19_eq (tab : px_T) (x0 : Nat) (x2 : Int32) (x1 : Int32) (x3 : Int32) (x4 : Int32) (σ : px_M) : f_9023_19 tab x0 x2 x1 x3 x4 σ = (F_9023_19 tab x0 x2 x1 x3 x4 σ).bind (Sum.elim (fun s => f_9023_19 tab x0 x2 s.1 s.2.1 s.2.2.1 s.2.2.2) some) := lpO_eq _ _
noncomputable def f_9023 (tab : px_T) (σ : px_M) (x0 : Nat) : Option (Int32 × px_M) := gd (px_obj (px_lay tab x0) 9) ((f_9015 tab σ x0).bind fun q1 => gd (px_obj (px_lay tab x0) 9) (gd (px_obj (px_lay tab x0) 9) (f_9023_19 tab x0 (((q1).1 x0 9)) ((nI 0)) (((q1).1 x0 9)) ((nI 0)) q1)))
def kp_9023_107 (Q : Nat → Int32 → Int32 → px_M → Prop) : px_P := fun ls st τ => st = [] ∧ kN ls (fun x0 ls => kZ ls (fun ls => kI ls (fun x2 ls => kI ls (fun x3 ls => kZ ls (fun ls => kE ls (Q x0 x2 x3 τ))))))
theorem kq_9023_107 {C : px_C} {k : Option px_V → px_M → Prop} {Q : Nat → Int32 → Int32 → px_M → Prop} (H : ∀ (x0 : Nat) (x2 : Int32) (x3 : Int32) (τ : px_M), Q x0 x2 x3 τ → ∀ (z1 : Option px_V) (z4 : Option px_V), px_W C k 107 [some (.inr (.inr (some x0))), z1, some (.inl x2), some (.inl x3), z4] [] τ) : ∀ ls st τ, kp_9023_107 Q ls st τ → px_W C k 107 ls st τ := by
  intro ls st τ hz
  obtain ⟨ez, h0⟩ := hz
  obtain ⟨x0, l0, e0, h1⟩ := kN_sp h0
  obtain ⟨z1, l1, e1, h2⟩ := kZ_sp h1
  obtain ⟨x2, l2, e2, h3⟩ := kI_sp h2
  obtain ⟨x3, l3, e3, h4⟩ := kI_sp h3
  obtain ⟨z4, l4, e4, h5⟩ := kZ_sp h4
  obtain ⟨ey, hy⟩ := kE_sp h5
  subst ez
  subst ey
  subst e4
  subst e3
  subst e2
  subst e1
  subst e0
  exact H x0 x2 x3 τ hy z1 z4
def kp_9023_92 (Q : Nat → Int32 → Int32 → Int32 → px_M → Prop) : px_P := fun ls st τ => st = [] ∧ kN ls (fun x0 ls => kI ls (fun x1 ls => kI ls (fun x2 ls => kZ ls (fun ls => kI ls (fun x4 ls => kE ls (Q x0 x1 x2 x4 τ))))))
theorem kq_9023_92 {C : px_C} {k : Option px_V → px_M → Prop} {Q : Nat → Int32 → Int32 → Int32 → px_M → Prop} (H : ∀ (x0 : Nat) (x1 : Int32) (x2 : Int32) (x4 : Int32) (τ : px_M), Q x0 x1 x2 x4 τ → ∀ (z3 : Option px_V), px_W C k 92 [some (.inr (.inr (some x0))), some (.inl x1), some (.inl x2), z3, some (.inl x4)] [] τ) : ∀ ls st τ, kp_9023_92 Q ls st τ → px_W C k 92 ls st τ := by
  intro ls st τ hz
  obtain ⟨ez, h0⟩ := hz
  obtain ⟨x0, l0, e0, h1⟩ := kN_sp h0
  obtain ⟨x1, l1, e1, h2⟩ := kI_sp h1
  obtain ⟨x2, l2, e2, h3⟩ := kI_sp h2
  obtain ⟨z3, l3, e3, h4⟩ := kZ_sp h3
  obtain ⟨x4, l4, e4, h5⟩ := kI_sp h4
  obtain ⟨ey, hy⟩ := kE_sp h5
  subst ez
  subst ey
  subst e4
  subst e3
  subst e2
  subst e1
  subst e0
  exact H x0 x1 x2 x4 τ hy z3
def kp_9023_42 (Q : Nat → Int32 → Int32 → Int32 → Int32 → px_M → Prop) : px_P := fun ls st τ => st = [] ∧ kN ls (fun x0 ls => kI ls (fun x1 ls => kI ls (fun x2 ls => kI ls (fun x3 ls => kI ls (fun x4 ls => kE ls (Q x0 x1 x2 x3 x4 τ))))))
theorem kq_9023_42 {C : px_C} {k : Option px_V → px_M → Prop} {Q : Nat → Int32 → Int32 → Int32 → Int32 → px_M → Prop} (H : ∀ (x0 : Nat) (x1 : Int32) (x2 : Int32) (x3 : Int32) (x4 : Int32) (τ : px_M), Q x0 x1 x2 x3 x4 τ → px_W C k 42 [some (.inr (.inr (some x0))), some (.inl x1), some (.inl x2), some (.inl x3), some (.inl x4)] [] τ) : ∀ ls st τ, kp_9023_42 Q ls st τ → px_W C k 42 ls st τ := by
  intro ls st τ hz
  obtain ⟨ez, h0⟩ := hz
  obtain ⟨x0, l0, e0, h1⟩ := kN_sp h0
  obtain ⟨x1, l1, e1, h2⟩ := kI_sp h1
  obtain ⟨x2, l2, e2, h3⟩ := kI_sp h2
  obtain ⟨x3, l3, e3, h4⟩ := kI_sp h3
  obtain ⟨x4, l4, e4, h5⟩ := kI_sp h4
  obtain ⟨ey, hy⟩ := kE_sp h5
  subst ez
  subst ey
  subst e4
  subst e3
  subst e2
  subst e1
  subst e0
  exact H x0 x1 x2 x3 x4 τ hy
def kp_9023_19 (Q : Nat → Int32 → Int32 → Int32 → Int32 → px_M → Prop) : px_P := fun ls st τ => st = [] ∧ kN ls (fun x0 ls => kI ls (fun x1 ls => kI ls (fun x2 ls => kI ls (fun x3 ls => kI ls (fun x4 ls => kE ls (Q x0 x1 x2 x3 x4 τ))))))
theorem kq_9023_19 {C : px_C} {k : Option px_V → px_M → Prop} {Q : Nat → Int32 → Int32 → Int32 → Int32 → px_M → Prop} (H : ∀ (x0 : Nat) (x1 : Int32) (x2 : Int32) (x3 : Int32) (x4 : Int32) (τ : px_M), Q x0 x1 x2 x3 x4 τ → px_W C k 19 [some (.inr (.inr (some x0))), some (.inl x1), some (.inl x2), some (.inl x3), some (.inl x4)] [] τ) : ∀ ls st τ, kp_9023_19 Q ls st τ → px_W C k 19 ls st τ := by
  intro ls st τ hz
  obtain ⟨ez, h0⟩ := hz
  obtain ⟨x0, l0, e0, h1⟩ := kN_sp h0
  obtain ⟨x1, l1, e1, h2⟩ := kI_sp h1
  obtain ⟨x2, l2, e2, h3⟩ := kI_sp h2
  obtain ⟨x3, l3, e3, h4⟩ := kI_sp h3
  obtain ⟨x4, l4, e4, h5⟩ := kI_sp h4
  obtain ⟨ey, hy⟩ := kE_sp h5
  subst ez
  subst ey
  subst e4
  subst e3
  subst e2
  subst e1
  subst e0
  exact H x0 x1 x2 x3 x4 τ hy
set_option maxHeartbeats 4000000 in
set_option maxRecDepth 100000 in
theorem rl_9023_107 {C : px_C} (hn : px_nd (px_tb C)) {h : Nat} (hh : 4 ≤ h) (hC : px_ok C pn_i9023 h) {k : Option px_V → px_M → Prop} {x0 : Nat} {x2 : Int32} {x3 : Int32} {σ : px_M} (hs : oW (f_9023_107 (px_tb C) σ x0 x2 x3) (fun q => k (some (.inl q.1)) q.2)) : ∀ (z1 : Option px_V) (z4 : Option px_V), px_W C k 107 [some (.inr (.inr (some x0))), z1, some (.inl x2), some (.inl x3), z4] [] σ := by
  intro z1 z4
  refine px_runG (h - 1) ck_9023 [(11009, Sg_11009 (f_11009 (px_tb C)))] [] 80 hC (px_sp1 (mf_11009 hn (by omega)) px_nosp) (by omega) px_nocut (fun G Jf hG hJf => ?_)
  simp only [f_9023_107, oW_some, oW_none, oW_bind, oW_map, oW_ite, oW_bn, oW_gd, oW_oA, Sum.elim_inl, Sum.elim_inr, oW_and, true_and, and_true, false_and, and_false, true_or, or_true, false_or, or_false, and_self, or_self, not_false_eq_true, not_true_eq_false, false_implies, forall_const, true_implies, eq_self, ↓reduceIte] at hs
  simp only [↓hG, ↓hJf, ↓px_vc, ↓px_ex, ↓px_jp, ↓px_gi, ↓px_gl, ↓px_gr, ↓px_s1, ↓px_s2, ↓px_nl, ↓px_i1, ↓px_l1, ↓px_r1_o, ↓px_q1, ↓px_i2, ↓px_l2, ↓px_il, ↓px_d0, ↓px_d1, ↓px_d2, ↓px_pop, px_sz, ↓px_sp, ↓px_rd, ↓px_rf, ↓pn_xf, ↓px_pt, ↓px_rok, ↓px_rv_o, ↓px_fill, ↓px_sl, ↓px_sw, ↓pn_SW, lc_lt, lc_ge, lc_gt, lc_le, lc_eq, ↓reduceIte, Nat.reduceEqDiff, Nat.reduceLeDiff, Nat.reduceAdd, Nat.reduceSub, reduceCtorEq, List.length_cons, List.length_nil, Option.toList_some, Option.toList_none, List.cons_append, List.nil_append, true_and, and_true, false_and, and_false, true_or, or_true, false_or, or_false, and_self, or_self, not_false_eq_true, not_true_eq_false, false_implies, forall_const, true_implies, eq_self, ↓kI_s, ↓kJ_s, ↓kN_s, ↓kO_s, ↓kZ_s, ↓kE_s, oW_and, ↓bk_9023, ↓pn_i9023, oW_some, oW_none, oW_bind, oW_map, oW_ite, oW_bn, oW_gd, oW_oA, Sum.elim_inl, Sum.elim_inr, ↓Sg_11009]
  exact hs
set_option maxHeartbeats 4000000 in
set_option maxRecDepth 100000 in
theorem rl_9023_92 {C : px_C} (hn : px_nd (px_tb C)) {h : Nat} (hh : 4 ≤ h) (hC : px_ok C pn_i9023 h) {k : Option px_V → px_M → Prop} {x0 : Nat} {x1 : Int32} {x2 : Int32} {x4 : Int32} {σ : px_M} (hs : oW (f_9023_92 (px_tb C) σ x0 x1 x2 x4) (Sum.elim (fun s : Int32 × Int32 × Int32 × px_M => px_W C k 19 [some (.inr (.inr (some x0))), some (.inl s.1), some (.inl x2), some (.inl s.2.1), some (.inl s.2.2.1)] [] s.2.2.2) (fun q => k (some (.inl q.1)) q.2))) : ∀ (z3 : Option px_V), px_W C k 92 [some (.inr (.inr (some x0))), some (.inl x1), some (.inl x2), z3, some (.inl x4)] [] σ := by
  intro z3
  refine px_runG (h - 1) ck_9023 [(9015, Sg_9015 (f_9015 (px_tb C)))] [(19, kp_9023_19 (fun y0 y1 y2 y3 y4 τ => y0 = x0 ∧ y2 = x2 ∧ (fun s : Int32 × Int32 × Int32 × px_M => px_W C k 19 [some (.inr (.inr (some x0))), some (.inl s.1), some (.inl x2), some (.inl s.2.1), some (.inl s.2.2.1)] [] s.2.2.2) (y1, y3, y4, τ)))] 80 hC (px_sp1 (mf_9015 hn (by omega)) px_nosp) (by omega) (px_cut1 (kq_9023_19 (fun y0 y1 y2 y3 y4 τ hq => by obtain ⟨rfl, rfl, hq⟩ := hq; exact hq)) px_nocut) (fun G Jf hG hJf => ?_)
  simp only [f_9023_92, oW_some, oW_none, oW_bind, oW_map, oW_ite, oW_bn, oW_gd, oW_oA, Sum.elim_inl, Sum.elim_inr, oW_and, true_and, and_true, false_and, and_false, true_or, or_true, false_or, or_false, and_self, or_self, not_false_eq_true, not_true_eq_false, false_implies, forall_const, true_implies, eq_self, ↓reduceIte] at hs
  simp only [↓hG, ↓hJf, ↓px_vc, ↓px_ex, ↓px_jp, ↓px_gi, ↓px_gl, ↓px_gr, ↓px_s1, ↓px_s2, ↓px_nl, ↓px_i1, ↓px_l1, ↓px_r1_o, ↓px_q1, ↓px_i2, ↓px_l2, ↓px_il, ↓px_d0, ↓px_d1, ↓px_d2, ↓px_pop, px_sz, ↓px_sp, ↓px_rd, ↓px_rf, ↓pn_xf, ↓px_pt, ↓px_rok, ↓px_rv_o, ↓px_fill, ↓px_sl, ↓px_sw, ↓pn_SW, lc_lt, lc_ge, lc_gt, lc_le, lc_eq, ↓reduceIte, Nat.reduceEqDiff, Nat.reduceLeDiff, Nat.reduceAdd, Nat.reduceSub, reduceCtorEq, List.length_cons, List.length_nil, Option.toList_some, Option.toList_none, List.cons_append, List.nil_append, true_and, and_true, false_and, and_false, true_or, or_true, false_or, or_false, and_self, or_self, not_false_eq_true, not_true_eq_false, false_implies, forall_const, true_implies, eq_self, ↓kI_s, ↓kJ_s, ↓kN_s, ↓kO_s, ↓kZ_s, ↓kE_s, oW_and, ↓bk_9023, ↓pn_i9023, oW_some, oW_none, oW_bind, oW_map, oW_ite, oW_bn, oW_gd, oW_oA, Sum.elim_inl, Sum.elim_inr, ↓Sg_9015, ↓kp_9023_19]
  exact hs
set_option maxHeartbeats 4000000 in
set_option maxRecDepth 100000 in
theorem rl_9023_42 {C : px_C} (hn : px_nd (px_tb C)) {h : Nat} (hh : 4 ≤ h) (hC : px_ok C pn_i9023 h) {k : Option px_V → px_M → Prop} {x0 : Nat} {x1 : Int32} {x2 : Int32} {x3 : Int32} {x4 : Int32} {σ : px_M} (hs : oW (f_9023_42 (px_tb C) σ x0 x1 x2 x3 x4) (Sum.elim (fun s : Int32 × Int32 × Int32 × px_M => px_W C k 19 [some (.inr (.inr (some x0))), some (.inl s.1), some (.inl x2), some (.inl s.2.1), some (.inl s.2.2.1)] [] s.2.2.2) (fun q => k (some (.inl q.1)) q.2))) : px_W C k 42 [some (.inr (.inr (some x0))), some (.inl x1), some (.inl x2), some (.inl x3), some (.inl x4)] [] σ := by
  refine px_runG (h - 1) ck_9023 [(9018, Sg_9018 (f_9018 (px_tb C))), (9020, Sg_9020 (f_9020 (px_tb C))), (11009, Sg_11009 (f_11009 (px_tb C)))] [(92, kp_9023_92 (fun y0 y1 y2 y4 τ => y0 = x0 ∧ y2 = x2 ∧ oW (f_9023_92 (px_tb C) τ y0 y1 y2 y4) (Sum.elim (fun s : Int32 × Int32 × Int32 × px_M => px_W C k 19 [some (.inr (.inr (some x0))), some (.inl s.1), some (.inl x2), some (.inl s.2.1), some (.inl s.2.2.1)] [] s.2.2.2) (fun q => k (some (.inl q.1)) q.2))))] 80 hC (px_sp1 (mf_9018 hn (by omega)) (px_sp1 (mf_9020 hn (by omega)) (px_sp1 (mf_11009 hn (by omega)) px_nosp))) (by omega) (px_cut1 (kq_9023_92 (fun y0 y1 y2 y4 τ hq => by obtain ⟨rfl, rfl, hq⟩ := hq; exact rl_9023_92 hn (by omega) hC  hq)) px_nocut) (fun G Jf hG hJf => ?_)
  simp only [f_9023_42, oW_some, oW_none, oW_bind, oW_map, oW_ite, oW_bn, oW_gd, oW_oA, Sum.elim_inl, Sum.elim_inr, oW_and, true_and, and_true, false_and, and_false, true_or, or_true, false_or, or_false, and_self, or_self, not_false_eq_true, not_true_eq_false, false_implies, forall_const, true_implies, eq_self, ↓reduceIte] at hs
  simp only [↓hG, ↓hJf, ↓px_vc, ↓px_ex, ↓px_jp, ↓px_gi, ↓px_gl, ↓px_gr, ↓px_s1, ↓px_s2, ↓px_nl, ↓px_i1, ↓px_l1, ↓px_r1_o, ↓px_q1, ↓px_i2, ↓px_l2, ↓px_il, ↓px_d0, ↓px_d1, ↓px_d2, ↓px_pop, px_sz, ↓px_sp, ↓px_rd, ↓px_rf, ↓pn_xf, ↓px_pt, ↓px_rok, ↓px_rv_o, ↓px_fill, ↓px_sl, ↓px_sw, ↓pn_SW, lc_lt, lc_ge, lc_gt, lc_le, lc_eq, ↓reduceIte, Nat.reduceEqDiff, Nat.reduceLeDiff, Nat.reduceAdd, Nat.reduceSub, reduceCtorEq, List.length_cons, List.length_nil, Option.toList_some, Option.toList_none, List.cons_append, List.nil_append, true_and, and_true, false_and, and_false, true_or, or_true, false_or, or_false, and_self, or_self, not_false_eq_true, not_true_eq_false, false_implies, forall_const, true_implies, eq_self, ↓kI_s, ↓kJ_s, ↓kN_s, ↓kO_s, ↓kZ_s, ↓kE_s, oW_and, ↓bk_9023, ↓pn_i9023, oW_some, oW_none, oW_bind, oW_map, oW_ite, oW_bn, oW_gd, oW_oA, Sum.elim_inl, Sum.elim_inr, ↓Sg_9018, ↓Sg_9020, ↓Sg_11009, ↓kp_9023_92]
  exact hs
set_option maxHeartbeats 4000000 in
set_option maxRecDepth 100000 in
theorem rl_9023_19 {C : px_C} (hn : px_nd (px_tb C)) {h : Nat} (hh : 4 ≤ h) (hC : px_ok C pn_i9023 h) {k : Option px_V → px_M → Prop} {x0 : Nat} {x2 : Int32} : ∀ s : Int32 × Int32 × Int32 × px_M, oW (f_9023_19 (px_tb C) x0 x2 s.1 s.2.1 s.2.2.1 s.2.2.2) (fun q => k (some (.inl q.1)) q.2) → (fun s : Int32 × Int32 × Int32 × px_M => px_W C k 19 [some (.inr (.inr (some x0))), some (.inl s.1), some (.inl x2), some (.inl s.2.1), some (.inl s.2.2.1)] [] s.2.2.2) s := by
  intro s h0
  refine lpO_sound (P := (fun s : Int32 × Int32 × Int32 × px_M => px_W C k 19 [some (.inr (.inr (some x0))), some (.inl s.1), some (.inl x2), some (.inl s.2.1), some (.inl s.2.2.1)] [] s.2.2.2)) (fun s hs => ?_) h0
  obtain ⟨x1, x3, x4, σ⟩ := s
  refine px_runG (h - 1) ck_9023 [(9016, Sg_9016 (f_9016 (px_tb C)))] [(42, kp_9023_42 (fun y0 y1 y2 y3 y4 τ => y0 = x0 ∧ y2 = x2 ∧ oW (f_9023_42 (px_tb C) τ y0 y1 y2 y3 y4) (Sum.elim (fun s : Int32 × Int32 × Int32 × px_M => px_W C k 19 [some (.inr (.inr (some x0))), some (.inl s.1), some (.inl x2), some (.inl s.2.1), some (.inl s.2.2.1)] [] s.2.2.2) (fun q => k (some (.inl q.1)) q.2)))), (107, kp_9023_107 (fun y0 y2 y3 τ => oW (f_9023_107 (px_tb C) τ y0 y2 y3) (fun q => k (some (.inl q.1)) q.2)))] 80 hC (px_sp1 (mf_9016 hn (by omega)) px_nosp) (by omega) (px_cut1 (kq_9023_42 (fun y0 y1 y2 y3 y4 τ hq => by obtain ⟨rfl, rfl, hq⟩ := hq; exact rl_9023_42 hn (by omega) hC  hq)) (px_cut1 (kq_9023_107 (fun y0 y2 y3 τ hq => by exact rl_9023_107 hn (by omega) hC  hq)) px_nocut)) (fun G Jf hG hJf => ?_)
  simp only [F_9023_19, oW_some, oW_none, oW_bind, oW_map, oW_ite, oW_bn, oW_gd, oW_oA, Sum.elim_inl, Sum.elim_inr, oW_and, true_and, and_true, false_and, and_false, true_or, or_true, false_or, or_false, and_self, or_self, not_false_eq_true, not_true_eq_false, false_implies, forall_const, true_implies, eq_self, ↓reduceIte] at hs
  simp only [↓hG, ↓hJf, ↓px_vc, ↓px_ex, ↓px_jp, ↓px_gi, ↓px_gl, ↓px_gr, ↓px_s1, ↓px_s2, ↓px_nl, ↓px_i1, ↓px_l1, ↓px_r1_o, ↓px_q1, ↓px_i2, ↓px_l2, ↓px_il, ↓px_d0, ↓px_d1, ↓px_d2, ↓px_pop, px_sz, ↓px_sp, ↓px_rd, ↓px_rf, ↓pn_xf, ↓px_pt, ↓px_rok, ↓px_rv_o, ↓px_fill, ↓px_sl, ↓px_sw, ↓pn_SW, lc_lt, lc_ge, lc_gt, lc_le, lc_eq, ↓reduceIte, Nat.reduceEqDiff, Nat.reduceLeDiff, Nat.reduceAdd, Nat.reduceSub, reduceCtorEq, List.length_cons, List.length_nil, Option.toList_some, Option.toList_none, List.cons_append, List.nil_append, true_and, and_true, false_and, and_false, true_or, or_true, false_or, or_false, and_self, or_self, not_false_eq_true, not_true_eq_false, false_implies, forall_const, true_implies, eq_self, ↓kI_s, ↓kJ_s, ↓kN_s, ↓kO_s, ↓kZ_s, ↓kE_s, oW_and, ↓bk_9023, ↓pn_i9023, oW_some, oW_none, oW_bind, oW_map, oW_ite, oW_bn, oW_gd, oW_oA, Sum.elim_inl, Sum.elim_inr, ↓Sg_9016, ↓kp_9023_42, ↓kp_9023_107]
  exact hs
set_option maxHeartbeats 4000000 in
set_option maxRecDepth 100000 in
theorem mf_9023 {tab : px_T} (hn : px_nd tab) {h : Nat} (hh : 4 ≤ h) : px_Ok tab pn_i9023 h (Sg_9023 (f_9023 tab)) := by
  refine px_mth hn (by decide +kernel) (fun av σ k hS => ?_) (fun C hT hC av σ k hS => ?_)
  · obtain ⟨x0, av0, e0, h0⟩ := px_r1_spec hS
    obtain ⟨ez, hz⟩ := h0
    subst ez
    subst e0
    exact Nat.le_of_ble_eq_true rfl
  · obtain ⟨x0, av0, e0, h0⟩ := px_r1_spec hS
    obtain ⟨ez, hz⟩ := h0
    subst ez
    subst e0
    subst hT
    refine px_runG (h - 1) ck_9023 [(9015, Sg_9015 (f_9015 (px_tb C)))] [(19, kp_9023_19 (fun y0 y1 y2 y3 y4 τ => oW (f_9023_19 (px_tb C) y0 y2 y1 y3 y4 τ) (fun q => k (some (.inl q.1)) q.2)))] 80 hC (px_sp1 (mf_9015 hn (by omega)) px_nosp) (by omega) (px_cut1 (kq_9023_19 (fun y0 y1 y2 y3 y4 τ hq => by exact rl_9023_19 hn (by omega) hC (y1, y3, y4, τ) hq)) px_nocut) (fun G Jf hG hJf => ?_)
    simp only [f_9023, oW_some, oW_none, oW_bind, oW_map, oW_ite, oW_bn, oW_gd, oW_oA, Sum.elim_inl, Sum.elim_inr, oW_and, true_and, and_true, false_and, and_false, true_or, or_true, false_or, or_false, and_self, or_self, not_false_eq_true, not_true_eq_false, false_implies, forall_const, true_implies, eq_self, ↓reduceIte] at hz
    simp only [↓hG, ↓hJf, ↓px_vc, ↓px_ex, ↓px_jp, ↓px_gi, ↓px_gl, ↓px_gr, ↓px_s1, ↓px_s2, ↓px_nl, ↓px_i1, ↓px_l1, ↓px_r1_o, ↓px_q1, ↓px_i2, ↓px_l2, ↓px_il, ↓px_d0, ↓px_d1, ↓px_d2, ↓px_pop, px_sz, ↓px_sp, ↓px_rd, ↓px_rf, ↓pn_xf, ↓px_pt, ↓px_rok, ↓px_rv_o, ↓px_fill, ↓px_sl, ↓px_sw, ↓pn_SW, lc_lt, lc_ge, lc_gt, lc_le, lc_eq, ↓reduceIte, Nat.reduceEqDiff, Nat.reduceLeDiff, Nat.reduceAdd, Nat.reduceSub, reduceCtorEq, List.length_cons, List.length_nil, Option.toList_some, Option.toList_none, List.cons_append, List.nil_append, true_and, and_true, false_and, and_false, true_or, or_true, false_or, or_false, and_self, or_self, not_false_eq_true, not_true_eq_false, false_implies, forall_const, true_implies, eq_self, ↓kI_s, ↓kJ_s, ↓kN_s, ↓kO_s, ↓kZ_s, ↓kE_s, oW_and, ↓bk_9023, ↓pn_i9023, oW_some, oW_none, oW_bind, oW_map, oW_ite, oW_bn, oW_gd, oW_oA, Sum.elim_inl, Sum.elim_inr, ↓Sg_9015, ↓kp_9023_19]
    exact hz
def Sg_9029 (g : px_M → Int32 → Option (Int32)) : px_S := fun av σ k => px_i1 av (fun x0 av => av = [] ∧ oW (g σ x0) (fun r => k (some (.inl r)) σ))
/-- NoThree$Reader.comparisonOf(I)I -/
noncomputable def f_9029 (tab : px_T) (σ : px_M) (x0 : Int32) : Option (Int32) := (if x0 = nI 4060 then (some ((nI 2004))) else (if x0 = nI 4061 then (some ((nI 2003))) else (if x0 = nI 4062 then (some ((nI 2005))) else (some ((-1))))))
set_option maxHeartbeats 4000000 in
set_option maxRecDepth 100000 in
theorem mf_9029 {tab : px_T} (hn : px_nd tab) {h : Nat} (hh : 1 ≤ h) : px_Ok tab pn_i9029 h (Sg_9029 (f_9029 tab)) := by
  refine px_mth hn (by decide +kernel) (fun av σ k hS => ?_) (fun C hT hC av σ k hS => ?_)
  · obtain ⟨x0, av0, e0, h0⟩ := px_i1_spec hS
    obtain ⟨ez, hz⟩ := h0
    subst ez
    subst e0
    exact Nat.le_of_ble_eq_true rfl
  · obtain ⟨x0, av0, e0, h0⟩ := px_i1_spec hS
    obtain ⟨ez, hz⟩ := h0
    subst ez
    subst e0
    subst hT
    refine px_runG (h - 1) ck_9029 [] [] 80 hC px_nosp (by omega) px_nocut (fun G Jf hG hJf => ?_)
    simp only [f_9029, oW_some, oW_none, oW_bind, oW_map, oW_ite, oW_bn, oW_gd, oW_oA, Sum.elim_inl, Sum.elim_inr, oW_and, true_and, and_true, false_and, and_false, true_or, or_true, false_or, or_false, and_self, or_self, not_false_eq_true, not_true_eq_false, false_implies, forall_const, true_implies, eq_self, ↓reduceIte] at hz
    simp only [↓hG, ↓hJf, ↓px_vc, ↓px_ex, ↓px_jp, ↓px_gi, ↓px_gl, ↓px_gr, ↓px_s1, ↓px_s2, ↓px_nl, ↓px_i1, ↓px_l1, ↓px_r1_o, ↓px_q1, ↓px_i2, ↓px_l2, ↓px_il, ↓px_d0, ↓px_d1, ↓px_d2, ↓px_pop, px_sz, ↓px_sp, ↓px_rd, ↓px_rf, ↓pn_xf, ↓px_pt, ↓px_rok, ↓px_rv_o, ↓px_fill, ↓px_sl, ↓px_sw, ↓pn_SW, lc_lt, lc_ge, lc_gt, lc_le, lc_eq, ↓reduceIte, Nat.reduceEqDiff, Nat.reduceLeDiff, Nat.reduceAdd, Nat.reduceSub, reduceCtorEq, List.length_cons, List.length_nil, Option.toList_some, Option.toList_none, List.cons_append, List.nil_append, true_and, and_true, false_and, and_false, true_or, or_true, false_or, or_false, and_self, or_self, not_false_eq_true, not_true_eq_false, false_implies, forall_const, true_implies, eq_self, ↓kI_s, ↓kJ_s, ↓kN_s, ↓kO_s, ↓kZ_s, ↓kE_s, oW_and, ↓bk_9029, ↓pn_i9029, oW_some, oW_none, oW_bind, oW_map, oW_ite, oW_bn, oW_gd, oW_oA, Sum.elim_inl, Sum.elim_inr]
    exact hz
def Sg_9017 (g : px_M → Nat → Option (Int32)) : px_S := fun av σ k => px_r1 av (fun x0 av => av = [] ∧ oW (g σ x0) (fun r => k (some (.inl r)) σ))
/-- NoThree$Reader.isRuleWord()Z -/
noncomputable def f_9017 (tab : px_T) (σ : px_M) (x0 : Nat) : Option (Int32) := gd (px_obj (px_lay tab x0) 9) (if ((σ).1 x0 9) < (nI 1000) then (some ((nI 0))) else (gd (px_obj (px_lay tab x0) 9) (if (nI 2000) ≤ ((σ).1 x0 9) then (some ((nI 0))) else (some ((nI 1))))))
set_option maxHeartbeats 4000000 in
set_option maxRecDepth 100000 in
theorem mf_9017 {tab : px_T} (hn : px_nd tab) {h : Nat} (hh : 1 ≤ h) : px_Ok tab pn_i9017 h (Sg_9017 (f_9017 tab)) := by
  refine px_mth hn (by decide +kernel) (fun av σ k hS => ?_) (fun C hT hC av σ k hS => ?_)
  · obtain ⟨x0, av0, e0, h0⟩ := px_r1_spec hS
    obtain ⟨ez, hz⟩ := h0
    subst ez
    subst e0
    exact Nat.le_of_ble_eq_true rfl
  · obtain ⟨x0, av0, e0, h0⟩ := px_r1_spec hS
    obtain ⟨ez, hz⟩ := h0
    subst ez
    subst e0
    subst hT
    refine px_runG (h - 1) ck_9017 [] [] 80 hC px_nosp (by omega) px_nocut (fun G Jf hG hJf => ?_)
    simp only [f_9017, oW_some, oW_none, oW_bind, oW_map, oW_ite, oW_bn, oW_gd, oW_oA, Sum.elim_inl, Sum.elim_inr, oW_and, true_and, and_true, false_and, and_false, true_or, or_true, false_or, or_false, and_self, or_self, not_false_eq_true, not_true_eq_false, false_implies, forall_const, true_implies, eq_self, ↓reduceIte] at hz
    simp only [↓hG, ↓hJf, ↓px_vc, ↓px_ex, ↓px_jp, ↓px_gi, ↓px_gl, ↓px_gr, ↓px_s1, ↓px_s2, ↓px_nl, ↓px_i1, ↓px_l1, ↓px_r1_o, ↓px_q1, ↓px_i2, ↓px_l2, ↓px_il, ↓px_d0, ↓px_d1, ↓px_d2, ↓px_pop, px_sz, ↓px_sp, ↓px_rd, ↓px_rf, ↓pn_xf, ↓px_pt, ↓px_rok, ↓px_rv_o, ↓px_fill, ↓px_sl, ↓px_sw, ↓pn_SW, lc_lt, lc_ge, lc_gt, lc_le, lc_eq, ↓reduceIte, Nat.reduceEqDiff, Nat.reduceLeDiff, Nat.reduceAdd, Nat.reduceSub, reduceCtorEq, List.length_cons, List.length_nil, Option.toList_some, Option.toList_none, List.cons_append, List.nil_append, true_and, and_true, false_and, and_false, true_or, or_true, false_or, or_false, and_self, or_self, not_false_eq_true, not_true_eq_false, false_implies, forall_const, true_implies, eq_self, ↓kI_s, ↓kJ_s, ↓kN_s, ↓kO_s, ↓kZ_s, ↓kE_s, oW_and, ↓bk_9017, ↓pn_i9017, oW_some, oW_none, oW_bind, oW_map, oW_ite, oW_bn, oW_gd, oW_oA, Sum.elim_inl, Sum.elim_inr]
    exact hz
def Sg_10004 (g : px_M → Nat → Int32 → Option (px_M)) : px_S := fun av σ k => px_r1 av (fun x0 av => px_i1 av (fun x1 av => av = [] ∧ oW (g σ x0 x1) (fun τ => k none τ)))
/-- NoThree$Rules.add(I)V -/
noncomputable def f_10004_54 (tab : px_T) (σ : px_M) (x0 : Nat) (x1 : Int32) : Option (px_M) := if x1 < (nI 1000) then (some (σ)) else (if (nI 2000) ≤ x1 then (some (σ)) else (gd (px_obj (px_lay tab x0) 10) (gd (px_obj (px_lay tab x0) 10) ((((σ).2.2 x0 2)).bind fun n1 => oA (px_lay tab n1) fun t2 l3 => gd (t2 = 0 ∨ t2 = 11) (gd (vp_in ((σ).1 x0 0) l3) ((((σ).2.2 x0 2)).bind fun n4 => oA (px_lay tab n4) fun t5 l6 => gd (t5 = 0) (gd (vp_in ((σ).1 x0 0) l6) (some ((px_wi σ n4 (((σ).1 x0 0)).toNatClampNeg ((px_av t2 σ n1 (((σ).1 x0 0)).toNatClampNeg) ||| ((nI 1) <<< ((x1 - (nI 1000)) &&& 31)))))))))))))
noncomputable def f_10004 (tab : px_T) (σ : px_M) (x0 : Nat) (x1 : Int32) : Option (px_M) := gd (px_obj (px_lay tab x0) 10) (if ((σ).1 x0 4) < nI 0 then (some (σ)) else (gd (px_obj (px_lay tab x0) 10) (if (nI 900) ≤ ((σ).1 x0 4) then (some (σ)) else (gd (px_obj (px_lay tab x0) 10) (if ((σ).1 x0 0) < nI 0 then (some (σ)) else (gd (px_obj (px_lay tab x0) 10) (if ((σ).1 x0 0) < (nI 6) then (gd (px_obj (px_lay tab x0) 10) (gd (px_obj (px_lay tab x0) 10) ((((σ).2.2 x0 3)).bind fun n1 => oA (px_lay tab n1) fun t2 l3 => gd (t2 = 0) (gd (vp_in ((σ).1 x0 4) l3) (gd (px_obj (px_lay tab x0) 10) (gd (px_obj (px_lay tab x0) 10) (f_10004_54 tab ((px_wi (px_wi σ n1 (((σ).1 x0 4)).toNatClampNeg x1) x0 4 ((((px_wi σ n1 (((σ).1 x0 4)).toNatClampNeg x1)).1 x0 4) + (nI 1)))) x0 x1))))))) else (some (σ)))))))))
def kp_10004_54 (Q : Nat → Int32 → px_M → Prop) : px_P := fun ls st τ => st = [] ∧ kN ls (fun x0 ls => kI ls (fun x1 ls => kE ls (Q x0 x1 τ)))
theorem kq_10004_54 {C : px_C} {k : Option px_V → px_M → Prop} {Q : Nat → Int32 → px_M → Prop} (H : ∀ (x0 : Nat) (x1 : Int32) (τ : px_M), Q x0 x1 τ → px_W C k 54 [some (.inr (.inr (some x0))), some (.inl x1)] [] τ) : ∀ ls st τ, kp_10004_54 Q ls st τ → px_W C k 54 ls st τ := by
  intro ls st τ hz
  obtain ⟨ez, h0⟩ := hz
  obtain ⟨x0, l0, e0, h1⟩ := kN_sp h0
  obtain ⟨x1, l1, e1, h2⟩ := kI_sp h1
  obtain ⟨ey, hy⟩ := kE_sp h2
  subst ez
  subst ey
  subst e1
  subst e0
  exact H x0 x1 τ hy
set_option maxHeartbeats 4000000 in
set_option maxRecDepth 100000 in
theorem rl_10004_54 {C : px_C} (hn : px_nd (px_tb C)) {h : Nat} (hh : 1 ≤ h) (hC : px_ok C pn_i10004 h) {k : Option px_V → px_M → Prop} {x0 : Nat} {x1 : Int32} {σ : px_M} (hs : oW (f_10004_54 (px_tb C) σ x0 x1) (fun τ => k none τ)) : px_W C k 54 [some (.inr (.inr (some x0))), some (.inl x1)] [] σ := by
  refine px_runG (h - 1) ck_10004 [] [] 80 hC px_nosp (by omega) px_nocut (fun G Jf hG hJf => ?_)
  simp only [f_10004_54, oW_some, oW_none, oW_bind, oW_map, oW_ite, oW_bn, oW_gd, oW_oA, Sum.elim_inl, Sum.elim_inr, oW_and, true_and, and_true, false_and, and_false, true_or, or_true, false_or, or_false, and_self, or_self, not_false_eq_true, not_true_eq_false, false_implies, forall_const, true_implies, eq_self, ↓reduceIte] at hs
  simp only [↓hG, ↓hJf, ↓px_vc, ↓px_ex, ↓px_jp, ↓px_gi, ↓px_gl, ↓px_gr, ↓px_s1, ↓px_s2, ↓px_nl, ↓px_i1, ↓px_l1, ↓px_r1_o, ↓px_q1, ↓px_i2, ↓px_l2, ↓px_il, ↓px_d0, ↓px_d1, ↓px_d2, ↓px_pop, px_sz, ↓px_sp, ↓px_rd, ↓px_rf, ↓pn_xf, ↓px_pt, ↓px_rok, ↓px_rv_o, ↓px_fill, ↓px_sl, ↓px_sw, ↓pn_SW, lc_lt, lc_ge, lc_gt, lc_le, lc_eq, ↓reduceIte, Nat.reduceEqDiff, Nat.reduceLeDiff, Nat.reduceAdd, Nat.reduceSub, reduceCtorEq, List.length_cons, List.length_nil, Option.toList_some, Option.toList_none, List.cons_append, List.nil_append, true_and, and_true, false_and, and_false, true_or, or_true, false_or, or_false, and_self, or_self, not_false_eq_true, not_true_eq_false, false_implies, forall_const, true_implies, eq_self, ↓kI_s, ↓kJ_s, ↓kN_s, ↓kO_s, ↓kZ_s, ↓kE_s, oW_and, ↓bk_10004, ↓pn_i10004, oW_some, oW_none, oW_bind, oW_map, oW_ite, oW_bn, oW_gd, oW_oA, Sum.elim_inl, Sum.elim_inr]
  exact hs
set_option maxHeartbeats 4000000 in
set_option maxRecDepth 100000 in
theorem mf_10004 {tab : px_T} (hn : px_nd tab) {h : Nat} (hh : 1 ≤ h) : px_Ok tab pn_i10004 h (Sg_10004 (f_10004 tab)) := by
  refine px_mth hn (by decide +kernel) (fun av σ k hS => ?_) (fun C hT hC av σ k hS => ?_)
  · obtain ⟨x0, av0, e0, h0⟩ := px_r1_spec hS
    obtain ⟨x1, av1, e1, h1⟩ := px_i1_spec h0
    obtain ⟨ez, hz⟩ := h1
    subst ez
    subst e1
    subst e0
    exact Nat.le_of_ble_eq_true rfl
  · obtain ⟨x0, av0, e0, h0⟩ := px_r1_spec hS
    obtain ⟨x1, av1, e1, h1⟩ := px_i1_spec h0
    obtain ⟨ez, hz⟩ := h1
    subst ez
    subst e1
    subst e0
    subst hT
    refine px_runG (h - 1) ck_10004 [] [(54, kp_10004_54 (fun y0 y1 τ => oW (f_10004_54 (px_tb C) τ y0 y1) (fun τ => k none τ)))] 80 hC px_nosp (by omega) (px_cut1 (kq_10004_54 (fun y0 y1 τ hq => by exact rl_10004_54 hn (by omega) hC  hq)) px_nocut) (fun G Jf hG hJf => ?_)
    simp only [f_10004, oW_some, oW_none, oW_bind, oW_map, oW_ite, oW_bn, oW_gd, oW_oA, Sum.elim_inl, Sum.elim_inr, oW_and, true_and, and_true, false_and, and_false, true_or, or_true, false_or, or_false, and_self, or_self, not_false_eq_true, not_true_eq_false, false_implies, forall_const, true_implies, eq_self, ↓reduceIte] at hz
    simp only [↓hG, ↓hJf, ↓px_vc, ↓px_ex, ↓px_jp, ↓px_gi, ↓px_gl, ↓px_gr, ↓px_s1, ↓px_s2, ↓px_nl, ↓px_i1, ↓px_l1, ↓px_r1_o, ↓px_q1, ↓px_i2, ↓px_l2, ↓px_il, ↓px_d0, ↓px_d1, ↓px_d2, ↓px_pop, px_sz, ↓px_sp, ↓px_rd, ↓px_rf, ↓pn_xf, ↓px_pt, ↓px_rok, ↓px_rv_o, ↓px_fill, ↓px_sl, ↓px_sw, ↓pn_SW, lc_lt, lc_ge, lc_gt, lc_le, lc_eq, ↓reduceIte, Nat.reduceEqDiff, Nat.reduceLeDiff, Nat.reduceAdd, Nat.reduceSub, reduceCtorEq, List.length_cons, List.length_nil, Option.toList_some, Option.toList_none, List.cons_append, List.nil_append, true_and, and_true, false_and, and_false, true_or, or_true, false_or, or_false, and_self, or_self, not_false_eq_true, not_true_eq_false, false_implies, forall_const, true_implies, eq_self, ↓kI_s, ↓kJ_s, ↓kN_s, ↓kO_s, ↓kZ_s, ↓kE_s, oW_and, ↓bk_10004, ↓pn_i10004, oW_some, oW_none, oW_bind, oW_map, oW_ite, oW_bn, oW_gd, oW_oA, Sum.elim_inl, Sum.elim_inr, ↓kp_10004_54]
    exact hz
def Sg_9030 (g : px_M → Nat → Int32 → Option (Int32 × px_M)) : px_S := fun av σ k => px_r1 av (fun x0 av => px_i1 av (fun x1 av => av = [] ∧ oW (g σ x0 x1) (fun q => k (some (.inl q.1)) q.2)))
def Sg_9031 (g : px_M → Nat → Int32 → Option (Int32 × px_M)) : px_S := fun av σ k => px_r1 av (fun x0 av => px_i1 av (fun x1 av => av = [] ∧ oW (g σ x0 x1) (fun q => k (some (.inl q.1)) q.2)))
def Sg_9032 (g : px_M → Nat → Int32 → Option (Int32 × px_M)) : px_S := fun av σ k => px_r1 av (fun x0 av => px_i1 av (fun x1 av => av = [] ∧ oW (g σ x0 x1) (fun q => k (some (.inl q.1)) q.2)))
/-- NoThree$Reader.readSum(I)Z -/
noncomputable def f_9030_95 (tab : px_T) (g9030 : px_M → Nat → Int32 → Option (Int32 × px_M)) (g9031 : px_M → Nat → Int32 → Option (Int32 × px_M)) (g9032 : px_M → Nat → Int32 → Option (Int32 × px_M)) (σ : px_M) : Option (Int32 × px_M) := some (((nI 1), σ))
noncomputable def f_9030_89 (tab : px_T) (g9030 : px_M → Nat → Int32 → Option (Int32 × px_M)) (g9031 : px_M → Nat → Int32 → Option (Int32 × px_M)) (g9032 : px_M → Nat → Int32 → Option (Int32 × px_M)) (σ : px_M) (x0 : Nat) (x1 : Int32) (x2 : Int32) : Option ((Int32 × px_M) ⊕ (Int32 × px_M)) := some (.inl (((x2 + (nI 1)), σ)))
noncomputable def f_9030_66 (tab : px_T) (g9030 : px_M → Nat → Int32 → Option (Int32 × px_M)) (g9031 : px_M → Nat → Int32 → Option (Int32 × px_M)) (g9032 : px_M → Nat → Int32 → Option (Int32 × px_M)) (σ : px_M) (x0 : Nat) (x1 : Int32) (x2 : Int32) (x3 : Int32) : Option ((Int32 × px_M) ⊕ (Int32 × px_M)) := gd (px_obj (px_lay tab x0) 9) ((((σ).2.2 x0 3)).bind fun n1 => gd (px_obj (px_lay tab n1) 1) (if x3 = nI 0 then ((((σ).2.2 n1 1)).bind fun n2 => gd (px_obj (px_lay tab n2) 10) ((f_10004 tab σ n2 ((nI 2001))).bind fun q3 => f_9030_89 tab g9030 g9031 g9032 q3 x0 x1 x2)) else ((((σ).2.2 n1 1)).bind fun n4 => gd (px_obj (px_lay tab n4) 10) ((f_10004 tab σ n4 ((nI 2000))).bind fun q5 => f_9030_89 tab g9030 g9031 g9032 q5 x0 x1 x2))))
noncomputable def f_9030_64 (tab : px_T) (g9030 : px_M → Nat → Int32 → Option (Int32 × px_M)) (g9031 : px_M → Nat → Int32 → Option (Int32 × px_M)) (g9032 : px_M → Nat → Int32 → Option (Int32 × px_M)) (σ : px_M) : Option (Int32 × px_M) := some (((nI 0), σ))
noncomputable def f_9030_52 (tab : px_T) (g9030 : px_M → Nat → Int32 → Option (Int32 × px_M)) (g9031 : px_M → Nat → Int32 → Option (Int32 × px_M)) (g9032 : px_M → Nat → Int32 → Option (Int32 × px_M)) (σ : px_M) (x0 : Nat) (x1 : Int32) (x2 : Int32) (x3 : Int32) : Option ((Int32 × px_M) ⊕ (Int32 × px_M)) := gd (px_obj (px_lay tab x0) 9) ((f_9015 tab σ x0).bind fun q1 => gd (px_obj (px_lay tab x0) 9) ((g9031 q1 x0 x1).bind fun q2 => bn (q2.1 = nI 0) (f_9030_66 tab g9030 g9031 g9032 q2.2 x0 x1 x2 x3) (Option.map Sum.inr (f_9030_64 tab g9030 g9031 g9032 q2.2))))
noncomputable def f_9030_35 (tab : px_T) (g9030 : px_M → Nat → Int32 → Option (Int32 × px_M)) (g9031 : px_M → Nat → Int32 → Option (Int32 × px_M)) (g9032 : px_M → Nat → Int32 → Option (Int32 × px_M)) (σ : px_M) (x0 : Nat) (x1 : Int32) (x2 : Int32) (x3 : Int32) : Option ((Int32 × px_M) ⊕ (Int32 × px_M)) := bn (x3 = nI 0) (f_9030_52 tab g9030 g9031 g9032 σ x0 x1 x2 x3) (gd (px_obj (px_lay tab x0) 9) (if ((σ).1 x0 9) = (nI 4045) then (f_9030_52 tab g9030 g9031 g9032 σ x0 x1 x2 x3) else (Option.map Sum.inr (f_9030_95 tab g9030 g9031 g9032 σ))))
noncomputable def F_9030_12 (tab : px_T) (g9030 : px_M → Nat → Int32 → Option (Int32 × px_M)) (g9031 : px_M → Nat → Int32 → Option (Int32 × px_M)) (g9032 : px_M → Nat → Int32 → Option (Int32 × px_M)) (x0 : Nat) (x1 : Int32) (x2 : Int32) (σ : px_M) : Option ((Int32 × px_M) ⊕ (Int32 × px_M)) := if (nI 900) ≤ x2 then (Option.map Sum.inr (f_9030_95 tab g9030 g9031 g9032 σ)) else (gd (px_obj (px_lay tab x0) 9) (bn (((σ).1 x0 9) = (nI 4043)) (f_9030_35 tab g9030 g9031 g9032 σ x0 x1 x2 ((nI 0))) (f_9030_35 tab g9030 g9031 g9032 σ x0 x1 x2 ((nI 1)))))
noncomputable def f_9030_12 (tab : px_T) (g9030 : px_M → Nat → Int32 → Option (Int32 × px_M)) (g9031 : px_M → Nat → Int32 → Option (Int32 × px_M)) (g9032 : px_M → Nat → Int32 → Option (Int32 × px_M)) (x0 : Nat) (x1 : Int32) (x2 : Int32) (σ : px_M) : Option (Int32 × px_M) := lpO (fun s : Int32 × px_M => F_9030_12 tab g9030 g9031 g9032 x0 x1 s.1 s.2) (x2, σ)
theorem f_9030_12_eq (tab : px_T) (g9030 : px_M → Nat → Int32 → Option (Int32 × px_M)) (g9031 : px_M → Nat → Int32 → Option (Int32 × px_M)) (g9032 : px_M → Nat → Int32 → Option (Int32 × px_M)) (x0 : Nat) (x1 : Int32) (x2 : Int32) (σ : px_M) : f_9030_12 tab g9030 g9031 g9032 x0 x1 x2 σ = (F_9030_12 tab g9030 g9031 g9032 x0 x1 x2 σ).bind (Sum.elim (fun s => f_9030_12 tab g9030 g9031 g9032 x0 x1 s.1 s.2) some) := lpO_eq _ _
noncomputable def F_9030 (tab : px_T) (g9030 : px_M → Nat → Int32 → Option (Int32 × px_M)) (g9031 : px_M → Nat → Int32 → Option (Int32 × px_M)) (g9032 : px_M → Nat → Int32 → Option (Int32 × px_M)) (σ : px_M) (x0 : Nat) (x1 : Int32) : Option (Int32 × px_M) := gd (px_obj (px_lay tab x0) 9) ((g9031 σ x0 x1).bind fun q1 => bn (q1.1 = nI 0) (f_9030_12 tab g9030 g9031 g9032 x0 x1 ((nI 0)) q1.2) (some (((nI 0), q1.2))))
def kp_9030_95 (Q : px_M → Prop) : px_P := fun ls st τ => st = [] ∧ kZ ls (fun ls => kZ ls (fun ls => kZ ls (fun ls => kZ ls (fun ls => kE ls (Q τ)))))
theorem kq_9030_95 {C : px_C} {k : Option px_V → px_M → Prop} {Q : px_M → Prop} (H : ∀ (τ : px_M), Q τ → ∀ (z0 : Option px_V) (z1 : Option px_V) (z2 : Option px_V) (z3 : Option px_V), px_W C k 95 [z0, z1, z2, z3] [] τ) : ∀ ls st τ, kp_9030_95 Q ls st τ → px_W C k 95 ls st τ := by
  intro ls st τ hz
  obtain ⟨ez, h0⟩ := hz
  obtain ⟨z0, l0, e0, h1⟩ := kZ_sp h0
  obtain ⟨z1, l1, e1, h2⟩ := kZ_sp h1
  obtain ⟨z2, l2, e2, h3⟩ := kZ_sp h2
  obtain ⟨z3, l3, e3, h4⟩ := kZ_sp h3
  obtain ⟨ey, hy⟩ := kE_sp h4
  subst ez
  subst ey
  subst e3
  subst e2
  subst e1
  subst e0
  exact H τ hy z0 z1 z2 z3
def kp_9030_89 (Q : Nat → Int32 → Int32 → px_M → Prop) : px_P := fun ls st τ => st = [] ∧ kN ls (fun x0 ls => kI ls (fun x1 ls => kI ls (fun x2 ls => kZ ls (fun ls => kE ls (Q x0 x1 x2 τ)))))
theorem kq_9030_89 {C : px_C} {k : Option px_V → px_M → Prop} {Q : Nat → Int32 → Int32 → px_M → Prop} (H : ∀ (x0 : Nat) (x1 : Int32) (x2 : Int32) (τ : px_M), Q x0 x1 x2 τ → ∀ (z3 : Option px_V), px_W C k 89 [some (.inr (.inr (some x0))), some (.inl x1), some (.inl x2), z3] [] τ) : ∀ ls st τ, kp_9030_89 Q ls st τ → px_W C k 89 ls st τ := by
  intro ls st τ hz
  obtain ⟨ez, h0⟩ := hz
  obtain ⟨x0, l0, e0, h1⟩ := kN_sp h0
  obtain ⟨x1, l1, e1, h2⟩ := kI_sp h1
  obtain ⟨x2, l2, e2, h3⟩ := kI_sp h2
  obtain ⟨z3, l3, e3, h4⟩ := kZ_sp h3
  obtain ⟨ey, hy⟩ := kE_sp h4
  subst ez
  subst ey
  subst e3
  subst e2
  subst e1
  subst e0
  exact H x0 x1 x2 τ hy z3
def kp_9030_66 (Q : Nat → Int32 → Int32 → Int32 → px_M → Prop) : px_P := fun ls st τ => st = [] ∧ kN ls (fun x0 ls => kI ls (fun x1 ls => kI ls (fun x2 ls => kI ls (fun x3 ls => kE ls (Q x0 x1 x2 x3 τ)))))
theorem kq_9030_66 {C : px_C} {k : Option px_V → px_M → Prop} {Q : Nat → Int32 → Int32 → Int32 → px_M → Prop} (H : ∀ (x0 : Nat) (x1 : Int32) (x2 : Int32) (x3 : Int32) (τ : px_M), Q x0 x1 x2 x3 τ → px_W C k 66 [some (.inr (.inr (some x0))), some (.inl x1), some (.inl x2), some (.inl x3)] [] τ) : ∀ ls st τ, kp_9030_66 Q ls st τ → px_W C k 66 ls st τ := by
  intro ls st τ hz
  obtain ⟨ez, h0⟩ := hz
  obtain ⟨x0, l0, e0, h1⟩ := kN_sp h0
  obtain ⟨x1, l1, e1, h2⟩ := kI_sp h1
  obtain ⟨x2, l2, e2, h3⟩ := kI_sp h2
  obtain ⟨x3, l3, e3, h4⟩ := kI_sp h3
  obtain ⟨ey, hy⟩ := kE_sp h4
  subst ez
  subst ey
  subst e3
  subst e2
  subst e1
  subst e0
  exact H x0 x1 x2 x3 τ hy
def kp_9030_64 (Q : px_M → Prop) : px_P := fun ls st τ => st = [] ∧ kZ ls (fun ls => kZ ls (fun ls => kZ ls (fun ls => kZ ls (fun ls => kE ls (Q τ)))))
theorem kq_9030_64 {C : px_C} {k : Option px_V → px_M → Prop} {Q : px_M → Prop} (H : ∀ (τ : px_M), Q τ → ∀ (z0 : Option px_V) (z1 : Option px_V) (z2 : Option px_V) (z3 : Option px_V), px_W C k 64 [z0, z1, z2, z3] [] τ) : ∀ ls st τ, kp_9030_64 Q ls st τ → px_W C k 64 ls st τ := by
  intro ls st τ hz
  obtain ⟨ez, h0⟩ := hz
  obtain ⟨z0, l0, e0, h1⟩ := kZ_sp h0
  obtain ⟨z1, l1, e1, h2⟩ := kZ_sp h1
  obtain ⟨z2, l2, e2, h3⟩ := kZ_sp h2
  obtain ⟨z3, l3, e3, h4⟩ := kZ_sp h3
  obtain ⟨ey, hy⟩ := kE_sp h4
  subst ez
  subst ey
  subst e3
  subst e2
  subst e1
  subst e0
  exact H τ hy z0 z1 z2 z3
def kp_9030_52 (Q : Nat → Int32 → Int32 → Int32 → px_M → Prop) : px_P := fun ls st τ => st = [] ∧ kN ls (fun x0 ls => kI ls (fun x1 ls => kI ls (fun x2 ls => kI ls (fun x3 ls => kE ls (Q x0 x1 x2 x3 τ)))))
theorem kq_9030_52 {C : px_C} {k : Option px_V → px_M → Prop} {Q : Nat → Int32 → Int32 → Int32 → px_M → Prop} (H : ∀ (x0 : Nat) (x1 : Int32) (x2 : Int32) (x3 : Int32) (τ : px_M), Q x0 x1 x2 x3 τ → px_W C k 52 [some (.inr (.inr (some x0))), some (.inl x1), some (.inl x2), some (.inl x3)] [] τ) : ∀ ls st τ, kp_9030_52 Q ls st τ → px_W C k 52 ls st τ := by
  intro ls st τ hz
  obtain ⟨ez, h0⟩ := hz
  obtain ⟨x0, l0, e0, h1⟩ := kN_sp h0
  obtain ⟨x1, l1, e1, h2⟩ := kI_sp h1
  obtain ⟨x2, l2, e2, h3⟩ := kI_sp h2
  obtain ⟨x3, l3, e3, h4⟩ := kI_sp h3
  obtain ⟨ey, hy⟩ := kE_sp h4
  subst ez
  subst ey
  subst e3
  subst e2
  subst e1
  subst e0
  exact H x0 x1 x2 x3 τ hy
def kp_9030_35 (Q : Nat → Int32 → Int32 → Int32 → px_M → Prop) : px_P := fun ls st τ => st = [] ∧ kN ls (fun x0 ls => kI ls (fun x1 ls => kI ls (fun x2 ls => kI ls (fun x3 ls => kE ls (Q x0 x1 x2 x3 τ)))))
theorem kq_9030_35 {C : px_C} {k : Option px_V → px_M → Prop} {Q : Nat → Int32 → Int32 → Int32 → px_M → Prop} (H : ∀ (x0 : Nat) (x1 : Int32) (x2 : Int32) (x3 : Int32) (τ : px_M), Q x0 x1 x2 x3 τ → px_W C k 35 [some (.inr (.inr (some x0))), some (.inl x1), some (.inl x2), some (.inl x3)] [] τ) : ∀ ls st τ, kp_9030_35 Q ls st τ → px_W C k 35 ls st τ := by
  intro ls st τ hz
  obtain ⟨ez, h0⟩ := hz
  obtain ⟨x0, l0, e0, h1⟩ := kN_sp h0
  obtain ⟨x1, l1, e1, h2⟩ := kI_sp h1
  obtain ⟨x2, l2, e2, h3⟩ := kI_sp h2
  obtain ⟨x3, l3, e3, h4⟩ := kI_sp h3
  obtain ⟨ey, hy⟩ := kE_sp h4
  subst ez
  subst ey
  subst e3
  subst e2
  subst e1
  subst e0
  exact H x0 x1 x2 x3 τ hy
def kp_9030_12 (Q : Nat → Int32 → Int32 → px_M → Prop) : px_P := fun ls st τ => st = [] ∧ kN ls (fun x0 ls => kI ls (fun x1 ls => kI ls (fun x2 ls => kZ ls (fun ls => kE ls (Q x0 x1 x2 τ)))))
theorem kq_9030_12 {C : px_C} {k : Option px_V → px_M → Prop} {Q : Nat → Int32 → Int32 → px_M → Prop} (H : ∀ (x0 : Nat) (x1 : Int32) (x2 : Int32) (τ : px_M), Q x0 x1 x2 τ → ∀ (z3 : Option px_V), px_W C k 12 [some (.inr (.inr (some x0))), some (.inl x1), some (.inl x2), z3] [] τ) : ∀ ls st τ, kp_9030_12 Q ls st τ → px_W C k 12 ls st τ := by
  intro ls st τ hz
  obtain ⟨ez, h0⟩ := hz
  obtain ⟨x0, l0, e0, h1⟩ := kN_sp h0
  obtain ⟨x1, l1, e1, h2⟩ := kI_sp h1
  obtain ⟨x2, l2, e2, h3⟩ := kI_sp h2
  obtain ⟨z3, l3, e3, h4⟩ := kZ_sp h3
  obtain ⟨ey, hy⟩ := kE_sp h4
  subst ez
  subst ey
  subst e3
  subst e2
  subst e1
  subst e0
  exact H x0 x1 x2 τ hy z3
set_option maxHeartbeats 4000000 in
set_option maxRecDepth 100000 in
theorem rl_9030_95 {C : px_C} (hn : px_nd (px_tb C)) {h : Nat} (hh : 3 ≤ h) (hC : px_ok C pn_i9030 h) {g9030 : px_M → Nat → Int32 → Option (Int32 × px_M)} {g9031 : px_M → Nat → Int32 → Option (Int32 × px_M)} {g9032 : px_M → Nat → Int32 → Option (Int32 × px_M)} (hg9030 : px_Ok (px_tb C) pn_i9030 (h - 1) (Sg_9030 g9030)) (hg9031 : px_Ok (px_tb C) pn_i9031 (h - 1) (Sg_9031 g9031)) (hg9032 : px_Ok (px_tb C) pn_i9032 (h - 1) (Sg_9032 g9032)) {k : Option px_V → px_M → Prop} {σ : px_M} (hs : oW (f_9030_95 (px_tb C) g9030 g9031 g9032 σ) (fun q => k (some (.inl q.1)) q.2)) : ∀ (z0 : Option px_V) (z1 : Option px_V) (z2 : Option px_V) (z3 : Option px_V), px_W C k 95 [z0, z1, z2, z3] [] σ := by
  intro z0 z1 z2 z3
  refine px_runG (h - 1) ck_9030 [] [] 80 hC px_nosp (by omega) px_nocut (fun G Jf hG hJf => ?_)
  simp only [f_9030_95, oW_some, oW_none, oW_bind, oW_map, oW_ite, oW_bn, oW_gd, oW_oA, Sum.elim_inl, Sum.elim_inr, oW_and, true_and, and_true, false_and, and_false, true_or, or_true, false_or, or_false, and_self, or_self, not_false_eq_true, not_true_eq_false, false_implies, forall_const, true_implies, eq_self, ↓reduceIte] at hs
  simp only [↓hG, ↓hJf, ↓px_vc, ↓px_ex, ↓px_jp, ↓px_gi, ↓px_gl, ↓px_gr, ↓px_s1, ↓px_s2, ↓px_nl, ↓px_i1, ↓px_l1, ↓px_r1_o, ↓px_q1, ↓px_i2, ↓px_l2, ↓px_il, ↓px_d0, ↓px_d1, ↓px_d2, ↓px_pop, px_sz, ↓px_sp, ↓px_rd, ↓px_rf, ↓pn_xf, ↓px_pt, ↓px_rok, ↓px_rv_o, ↓px_fill, ↓px_sl, ↓px_sw, ↓pn_SW, lc_lt, lc_ge, lc_gt, lc_le, lc_eq, ↓reduceIte, Nat.reduceEqDiff, Nat.reduceLeDiff, Nat.reduceAdd, Nat.reduceSub, reduceCtorEq, List.length_cons, List.length_nil, Option.toList_some, Option.toList_none, List.cons_append, List.nil_append, true_and, and_true, false_and, and_false, true_or, or_true, false_or, or_false, and_self, or_self, not_false_eq_true, not_true_eq_false, false_implies, forall_const, true_implies, eq_self, ↓kI_s, ↓kJ_s, ↓kN_s, ↓kO_s, ↓kZ_s, ↓kE_s, oW_and, ↓bk_9030, ↓pn_i9030, oW_some, oW_none, oW_bind, oW_map, oW_ite, oW_bn, oW_gd, oW_oA, Sum.elim_inl, Sum.elim_inr]
  exact hs
set_option maxHeartbeats 4000000 in
set_option maxRecDepth 100000 in
theorem rl_9030_89 {C : px_C} (hn : px_nd (px_tb C)) {h : Nat} (hh : 3 ≤ h) (hC : px_ok C pn_i9030 h) {g9030 : px_M → Nat → Int32 → Option (Int32 × px_M)} {g9031 : px_M → Nat → Int32 → Option (Int32 × px_M)} {g9032 : px_M → Nat → Int32 → Option (Int32 × px_M)} (hg9030 : px_Ok (px_tb C) pn_i9030 (h - 1) (Sg_9030 g9030)) (hg9031 : px_Ok (px_tb C) pn_i9031 (h - 1) (Sg_9031 g9031)) (hg9032 : px_Ok (px_tb C) pn_i9032 (h - 1) (Sg_9032 g9032)) {k : Option px_V → px_M → Prop} {x0 : Nat} {x1 : Int32} {x2 : Int32} {σ : px_M} (hs : oW (f_9030_89 (px_tb C) g9030 g9031 g9032 σ x0 x1 x2) (Sum.elim (fun s : Int32 × px_M => ∀ (z3 : Option px_V), px_W C k 12 [some (.inr (.inr (some x0))), some (.inl x1), some (.inl s.1), z3] [] s.2) (fun q => k (some (.inl q.1)) q.2))) : ∀ (z3 : Option px_V), px_W C k 89 [some (.inr (.inr (some x0))), some (.inl x1), some (.inl x2), z3] [] σ := by
  intro z3
  refine px_runG (h - 1) ck_9030 [] [(12, kp_9030_12 (fun y0 y1 y2 τ => y0 = x0 ∧ y1 = x1 ∧ (fun s : Int32 × px_M => ∀ (z3 : Option px_V), px_W C k 12 [some (.inr (.inr (some x0))), some (.inl x1), some (.inl s.1), z3] [] s.2) (y2, τ)))] 80 hC px_nosp (by omega) (px_cut1 (kq_9030_12 (fun y0 y1 y2 τ hq => by obtain ⟨rfl, rfl, hq⟩ := hq; exact hq)) px_nocut) (fun G Jf hG hJf => ?_)
  simp only [f_9030_89, oW_some, oW_none, oW_bind, oW_map, oW_ite, oW_bn, oW_gd, oW_oA, Sum.elim_inl, Sum.elim_inr, oW_and, true_and, and_true, false_and, and_false, true_or, or_true, false_or, or_false, and_self, or_self, not_false_eq_true, not_true_eq_false, false_implies, forall_const, true_implies, eq_self, ↓reduceIte] at hs
  simp only [↓hG, ↓hJf, ↓px_vc, ↓px_ex, ↓px_jp, ↓px_gi, ↓px_gl, ↓px_gr, ↓px_s1, ↓px_s2, ↓px_nl, ↓px_i1, ↓px_l1, ↓px_r1_o, ↓px_q1, ↓px_i2, ↓px_l2, ↓px_il, ↓px_d0, ↓px_d1, ↓px_d2, ↓px_pop, px_sz, ↓px_sp, ↓px_rd, ↓px_rf, ↓pn_xf, ↓px_pt, ↓px_rok, ↓px_rv_o, ↓px_fill, ↓px_sl, ↓px_sw, ↓pn_SW, lc_lt, lc_ge, lc_gt, lc_le, lc_eq, ↓reduceIte, Nat.reduceEqDiff, Nat.reduceLeDiff, Nat.reduceAdd, Nat.reduceSub, reduceCtorEq, List.length_cons, List.length_nil, Option.toList_some, Option.toList_none, List.cons_append, List.nil_append, true_and, and_true, false_and, and_false, true_or, or_true, false_or, or_false, and_self, or_self, not_false_eq_true, not_true_eq_false, false_implies, forall_const, true_implies, eq_self, ↓kI_s, ↓kJ_s, ↓kN_s, ↓kO_s, ↓kZ_s, ↓kE_s, oW_and, ↓bk_9030, ↓pn_i9030, oW_some, oW_none, oW_bind, oW_map, oW_ite, oW_bn, oW_gd, oW_oA, Sum.elim_inl, Sum.elim_inr, ↓kp_9030_12]
  exact hs
set_option maxHeartbeats 4000000 in
set_option maxRecDepth 100000 in
theorem rl_9030_66 {C : px_C} (hn : px_nd (px_tb C)) {h : Nat} (hh : 3 ≤ h) (hC : px_ok C pn_i9030 h) {g9030 : px_M → Nat → Int32 → Option (Int32 × px_M)} {g9031 : px_M → Nat → Int32 → Option (Int32 × px_M)} {g9032 : px_M → Nat → Int32 → Option (Int32 × px_M)} (hg9030 : px_Ok (px_tb C) pn_i9030 (h - 1) (Sg_9030 g9030)) (hg9031 : px_Ok (px_tb C) pn_i9031 (h - 1) (Sg_9031 g9031)) (hg9032 : px_Ok (px_tb C) pn_i9032 (h - 1) (Sg_9032 g9032)) {k : Option px_V → px_M → Prop} {x0 : Nat} {x1 : Int32} {x2 : Int32} {x3 : Int32} {σ : px_M} (hs : oW (f_9030_66 (px_tb C) g9030 g9031 g9032 σ x0 x1 x2 x3) (Sum.elim (fun s : Int32 × px_M => ∀ (z3 : Option px_V), px_W C k 12 [some (.inr (.inr (some x0))), some (.inl x1), some (.inl s.1), z3] [] s.2) (fun q => k (some (.inl q.1)) q.2))) : px_W C k 66 [some (.inr (.inr (some x0))), some (.inl x1), some (.inl x2), some (.inl x3)] [] σ := by
  refine px_runG (h - 1) ck_9030 [(10004, Sg_10004 (f_10004 (px_tb C)))] [(89, kp_9030_89 (fun y0 y1 y2 τ => y0 = x0 ∧ y1 = x1 ∧ oW (f_9030_89 (px_tb C) g9030 g9031 g9032 τ y0 y1 y2) (Sum.elim (fun s : Int32 × px_M => ∀ (z3 : Option px_V), px_W C k 12 [some (.inr (.inr (some x0))), some (.inl x1), some (.inl s.1), z3] [] s.2) (fun q => k (some (.inl q.1)) q.2))))] 80 hC (px_sp1 (mf_10004 hn (by omega)) px_nosp) (by omega) (px_cut1 (kq_9030_89 (fun y0 y1 y2 τ hq => by obtain ⟨rfl, rfl, hq⟩ := hq; exact rl_9030_89 hn (by omega) hC hg9030 hg9031 hg9032  hq)) px_nocut) (fun G Jf hG hJf => ?_)
  simp only [f_9030_66, oW_some, oW_none, oW_bind, oW_map, oW_ite, oW_bn, oW_gd, oW_oA, Sum.elim_inl, Sum.elim_inr, oW_and, true_and, and_true, false_and, and_false, true_or, or_true, false_or, or_false, and_self, or_self, not_false_eq_true, not_true_eq_false, false_implies, forall_const, true_implies, eq_self, ↓reduceIte] at hs
  simp only [↓hG, ↓hJf, ↓px_vc, ↓px_ex, ↓px_jp, ↓px_gi, ↓px_gl, ↓px_gr, ↓px_s1, ↓px_s2, ↓px_nl, ↓px_i1, ↓px_l1, ↓px_r1_o, ↓px_q1, ↓px_i2, ↓px_l2, ↓px_il, ↓px_d0, ↓px_d1, ↓px_d2, ↓px_pop, px_sz, ↓px_sp, ↓px_rd, ↓px_rf, ↓pn_xf, ↓px_pt, ↓px_rok, ↓px_rv_o, ↓px_fill, ↓px_sl, ↓px_sw, ↓pn_SW, lc_lt, lc_ge, lc_gt, lc_le, lc_eq, ↓reduceIte, Nat.reduceEqDiff, Nat.reduceLeDiff, Nat.reduceAdd, Nat.reduceSub, reduceCtorEq, List.length_cons, List.length_nil, Option.toList_some, Option.toList_none, List.cons_append, List.nil_append, true_and, and_true, false_and, and_false, true_or, or_true, false_or, or_false, and_self, or_self, not_false_eq_true, not_true_eq_false, false_implies, forall_const, true_implies, eq_self, ↓kI_s, ↓kJ_s, ↓kN_s, ↓kO_s, ↓kZ_s, ↓kE_s, oW_and, ↓bk_9030, ↓pn_i9030, oW_some, oW_none, oW_bind, oW_map, oW_ite, oW_bn, oW_gd, oW_oA, Sum.elim_inl, Sum.elim_inr, ↓Sg_10004, ↓kp_9030_89]
  exact hs
set_option maxHeartbeats 4000000 in
set_option maxRecDepth 100000 in
theorem rl_9030_64 {C : px_C} (hn : px_nd (px_tb C)) {h : Nat} (hh : 3 ≤ h) (hC : px_ok C pn_i9030 h) {g9030 : px_M → Nat → Int32 → Option (Int32 × px_M)} {g9031 : px_M → Nat → Int32 → Option (Int32 × px_M)} {g9032 : px_M → Nat → Int32 → Option (Int32 × px_M)} (hg9030 : px_Ok (px_tb C) pn_i9030 (h - 1) (Sg_9030 g9030)) (hg9031 : px_Ok (px_tb C) pn_i9031 (h - 1) (Sg_9031 g9031)) (hg9032 : px_Ok (px_tb C) pn_i9032 (h - 1) (Sg_9032 g9032)) {k : Option px_V → px_M → Prop} {σ : px_M} (hs : oW (f_9030_64 (px_tb C) g9030 g9031 g9032 σ) (fun q => k (some (.inl q.1)) q.2)) : ∀ (z0 : Option px_V) (z1 : Option px_V) (z2 : Option px_V) (z3 : Option px_V), px_W C k 64 [z0, z1, z2, z3] [] σ := by
  intro z0 z1 z2 z3
  refine px_runG (h - 1) ck_9030 [] [] 80 hC px_nosp (by omega) px_nocut (fun G Jf hG hJf => ?_)
  simp only [f_9030_64, oW_some, oW_none, oW_bind, oW_map, oW_ite, oW_bn, oW_gd, oW_oA, Sum.elim_inl, Sum.elim_inr, oW_and, true_and, and_true, false_and, and_false, true_or, or_true, false_or, or_false, and_self, or_self, not_false_eq_true, not_true_eq_false, false_implies, forall_const, true_implies, eq_self, ↓reduceIte] at hs
  simp only [↓hG, ↓hJf, ↓px_vc, ↓px_ex, ↓px_jp, ↓px_gi, ↓px_gl, ↓px_gr, ↓px_s1, ↓px_s2, ↓px_nl, ↓px_i1, ↓px_l1, ↓px_r1_o, ↓px_q1, ↓px_i2, ↓px_l2, ↓px_il, ↓px_d0, ↓px_d1, ↓px_d2, ↓px_pop, px_sz, ↓px_sp, ↓px_rd, ↓px_rf, ↓pn_xf, ↓px_pt, ↓px_rok, ↓px_rv_o, ↓px_fill, ↓px_sl, ↓px_sw, ↓pn_SW, lc_lt, lc_ge, lc_gt, lc_le, lc_eq, ↓reduceIte, Nat.reduceEqDiff, Nat.reduceLeDiff, Nat.reduceAdd, Nat.reduceSub, reduceCtorEq, List.length_cons, List.length_nil, Option.toList_some, Option.toList_none, List.cons_append, List.nil_append, true_and, and_true, false_and, and_false, true_or, or_true, false_or, or_false, and_self, or_self, not_false_eq_true, not_true_eq_false, false_implies, forall_const, true_implies, eq_self, ↓kI_s, ↓kJ_s, ↓kN_s, ↓kO_s, ↓kZ_s, ↓kE_s, oW_and, ↓bk_9030, ↓pn_i9030, oW_some, oW_none, oW_bind, oW_map, oW_ite, oW_bn, oW_gd, oW_oA, Sum.elim_inl, Sum.elim_inr]
  exact hs
set_option maxHeartbeats 4000000 in
set_option maxRecDepth 100000 in
theorem rl_9030_52 {C : px_C} (hn : px_nd (px_tb C)) {h : Nat} (hh : 3 ≤ h) (hC : px_ok C pn_i9030 h) {g9030 : px_M → Nat → Int32 → Option (Int32 × px_M)} {g9031 : px_M → Nat → Int32 → Option (Int32 × px_M)} {g9032 : px_M → Nat → Int32 → Option (Int32 × px_M)} (hg9030 : px_Ok (px_tb C) pn_i9030 (h - 1) (Sg_9030 g9030)) (hg9031 : px_Ok (px_tb C) pn_i9031 (h - 1) (Sg_9031 g9031)) (hg9032 : px_Ok (px_tb C) pn_i9032 (h - 1) (Sg_9032 g9032)) {k : Option px_V → px_M → Prop} {x0 : Nat} {x1 : Int32} {x2 : Int32} {x3 : Int32} {σ : px_M} (hs : oW (f_9030_52 (px_tb C) g9030 g9031 g9032 σ x0 x1 x2 x3) (Sum.elim (fun s : Int32 × px_M => ∀ (z3 : Option px_V), px_W C k 12 [some (.inr (.inr (some x0))), some (.inl x1), some (.inl s.1), z3] [] s.2) (fun q => k (some (.inl q.1)) q.2))) : px_W C k 52 [some (.inr (.inr (some x0))), some (.inl x1), some (.inl x2), some (.inl x3)] [] σ := by
  refine px_runG (h - 1) ck_9030 [(9015, Sg_9015 (f_9015 (px_tb C))), (9031, Sg_9031 g9031)] [(64, kp_9030_64 (fun τ => oW (f_9030_64 (px_tb C) g9030 g9031 g9032 τ) (fun q => k (some (.inl q.1)) q.2))), (66, kp_9030_66 (fun y0 y1 y2 y3 τ => y0 = x0 ∧ y1 = x1 ∧ oW (f_9030_66 (px_tb C) g9030 g9031 g9032 τ y0 y1 y2 y3) (Sum.elim (fun s : Int32 × px_M => ∀ (z3 : Option px_V), px_W C k 12 [some (.inr (.inr (some x0))), some (.inl x1), some (.inl s.1), z3] [] s.2) (fun q => k (some (.inl q.1)) q.2))))] 80 hC (px_sp1 (mf_9015 hn (by omega)) (px_sp1 (hg9031) px_nosp)) (by omega) (px_cut1 (kq_9030_64 (fun τ hq => by exact rl_9030_64 hn (by omega) hC hg9030 hg9031 hg9032  hq)) (px_cut1 (kq_9030_66 (fun y0 y1 y2 y3 τ hq => by obtain ⟨rfl, rfl, hq⟩ := hq; exact rl_9030_66 hn (by omega) hC hg9030 hg9031 hg9032  hq)) px_nocut)) (fun G Jf hG hJf => ?_)
  simp only [f_9030_52, oW_some, oW_none, oW_bind, oW_map, oW_ite, oW_bn, oW_gd, oW_oA, Sum.elim_inl, Sum.elim_inr, oW_and, true_and, and_true, false_and, and_false, true_or, or_true, false_or, or_false, and_self, or_self, not_false_eq_true, not_true_eq_false, false_implies, forall_const, true_implies, eq_self, ↓reduceIte] at hs
  simp only [↓hG, ↓hJf, ↓px_vc, ↓px_ex, ↓px_jp, ↓px_gi, ↓px_gl, ↓px_gr, ↓px_s1, ↓px_s2, ↓px_nl, ↓px_i1, ↓px_l1, ↓px_r1_o, ↓px_q1, ↓px_i2, ↓px_l2, ↓px_il, ↓px_d0, ↓px_d1, ↓px_d2, ↓px_pop, px_sz, ↓px_sp, ↓px_rd, ↓px_rf, ↓pn_xf, ↓px_pt, ↓px_rok, ↓px_rv_o, ↓px_fill, ↓px_sl, ↓px_sw, ↓pn_SW, lc_lt, lc_ge, lc_gt, lc_le, lc_eq, ↓reduceIte, Nat.reduceEqDiff, Nat.reduceLeDiff, Nat.reduceAdd, Nat.reduceSub, reduceCtorEq, List.length_cons, List.length_nil, Option.toList_some, Option.toList_none, List.cons_append, List.nil_append, true_and, and_true, false_and, and_false, true_or, or_true, false_or, or_false, and_self, or_self, not_false_eq_true, not_true_eq_false, false_implies, forall_const, true_implies, eq_self, ↓kI_s, ↓kJ_s, ↓kN_s, ↓kO_s, ↓kZ_s, ↓kE_s, oW_and, ↓bk_9030, ↓pn_i9030, oW_some, oW_none, oW_bind, oW_map, oW_ite, oW_bn, oW_gd, oW_oA, Sum.elim_inl, Sum.elim_inr, ↓Sg_9015, ↓Sg_9031, ↓kp_9030_64, ↓kp_9030_66]
  exact hs
set_option maxHeartbeats 4000000 in
set_option maxRecDepth 100000 in
theorem rl_9030_35 {C : px_C} (hn : px_nd (px_tb C)) {h : Nat} (hh : 3 ≤ h) (hC : px_ok C pn_i9030 h) {g9030 : px_M → Nat → Int32 → Option (Int32 × px_M)} {g9031 : px_M → Nat → Int32 → Option (Int32 × px_M)} {g9032 : px_M → Nat → Int32 → Option (Int32 × px_M)} (hg9030 : px_Ok (px_tb C) pn_i9030 (h - 1) (Sg_9030 g9030)) (hg9031 : px_Ok (px_tb C) pn_i9031 (h - 1) (Sg_9031 g9031)) (hg9032 : px_Ok (px_tb C) pn_i9032 (h - 1) (Sg_9032 g9032)) {k : Option px_V → px_M → Prop} {x0 : Nat} {x1 : Int32} {x2 : Int32} {x3 : Int32} {σ : px_M} (hs : oW (f_9030_35 (px_tb C) g9030 g9031 g9032 σ x0 x1 x2 x3) (Sum.elim (fun s : Int32 × px_M => ∀ (z3 : Option px_V), px_W C k 12 [some (.inr (.inr (some x0))), some (.inl x1), some (.inl s.1), z3] [] s.2) (fun q => k (some (.inl q.1)) q.2))) : px_W C k 35 [some (.inr (.inr (some x0))), some (.inl x1), some (.inl x2), some (.inl x3)] [] σ := by
  refine px_runG (h - 1) ck_9030 [] [(52, kp_9030_52 (fun y0 y1 y2 y3 τ => y0 = x0 ∧ y1 = x1 ∧ oW (f_9030_52 (px_tb C) g9030 g9031 g9032 τ y0 y1 y2 y3) (Sum.elim (fun s : Int32 × px_M => ∀ (z3 : Option px_V), px_W C k 12 [some (.inr (.inr (some x0))), some (.inl x1), some (.inl s.1), z3] [] s.2) (fun q => k (some (.inl q.1)) q.2)))), (95, kp_9030_95 (fun τ => oW (f_9030_95 (px_tb C) g9030 g9031 g9032 τ) (fun q => k (some (.inl q.1)) q.2)))] 80 hC px_nosp (by omega) (px_cut1 (kq_9030_52 (fun y0 y1 y2 y3 τ hq => by obtain ⟨rfl, rfl, hq⟩ := hq; exact rl_9030_52 hn (by omega) hC hg9030 hg9031 hg9032  hq)) (px_cut1 (kq_9030_95 (fun τ hq => by exact rl_9030_95 hn (by omega) hC hg9030 hg9031 hg9032  hq)) px_nocut)) (fun G Jf hG hJf => ?_)
  simp only [f_9030_35, oW_some, oW_none, oW_bind, oW_map, oW_ite, oW_bn, oW_gd, oW_oA, Sum.elim_inl, Sum.elim_inr, oW_and, true_and, and_true, false_and, and_false, true_or, or_true, false_or, or_false, and_self, or_self, not_false_eq_true, not_true_eq_false, false_implies, forall_const, true_implies, eq_self, ↓reduceIte] at hs
  simp only [↓hG, ↓hJf, ↓px_vc, ↓px_ex, ↓px_jp, ↓px_gi, ↓px_gl, ↓px_gr, ↓px_s1, ↓px_s2, ↓px_nl, ↓px_i1, ↓px_l1, ↓px_r1_o, ↓px_q1, ↓px_i2, ↓px_l2, ↓px_il, ↓px_d0, ↓px_d1, ↓px_d2, ↓px_pop, px_sz, ↓px_sp, ↓px_rd, ↓px_rf, ↓pn_xf, ↓px_pt, ↓px_rok, ↓px_rv_o, ↓px_fill, ↓px_sl, ↓px_sw, ↓pn_SW, lc_lt, lc_ge, lc_gt, lc_le, lc_eq, ↓reduceIte, Nat.reduceEqDiff, Nat.reduceLeDiff, Nat.reduceAdd, Nat.reduceSub, reduceCtorEq, List.length_cons, List.length_nil, Option.toList_some, Option.toList_none, List.cons_append, List.nil_append, true_and, and_true, false_and, and_false, true_or, or_true, false_or, or_false, and_self, or_self, not_false_eq_true, not_true_eq_false, false_implies, forall_const, true_implies, eq_self, ↓kI_s, ↓kJ_s, ↓kN_s, ↓kO_s, ↓kZ_s, ↓kE_s, oW_and, ↓bk_9030, ↓pn_i9030, oW_some, oW_none, oW_bind, oW_map, oW_ite, oW_bn, oW_gd, oW_oA, Sum.elim_inl, Sum.elim_inr, ↓kp_9030_52, ↓kp_9030_95]
  exact hs
set_option maxHeartbeats 4000000 in
set_option maxRecDepth 100000 in
theorem rl_9030_12 {C : px_C} (hn : px_nd (px_tb C)) {h : Nat} (hh : 3 ≤ h) (hC : px_ok C pn_i9030 h) {g9030 : px_M → Nat → Int32 → Option (Int32 × px_M)} {g9031 : px_M → Nat → Int32 → Option (Int32 × px_M)} {g9032 : px_M → Nat → Int32 → Option (Int32 × px_M)} (hg9030 : px_Ok (px_tb C) pn_i9030 (h - 1) (Sg_9030 g9030)) (hg9031 : px_Ok (px_tb C) pn_i9031 (h - 1) (Sg_9031 g9031)) (hg9032 : px_Ok (px_tb C) pn_i9032 (h - 1) (Sg_9032 g9032)) {k : Option px_V → px_M → Prop} {x0 : Nat} {x1 : Int32} : ∀ s : Int32 × px_M, oW (f_9030_12 (px_tb C) g9030 g9031 g9032 x0 x1 s.1 s.2) (fun q => k (some (.inl q.1)) q.2) → (fun s : Int32 × px_M => ∀ (z3 : Option px_V), px_W C k 12 [some (.inr (.inr (some x0))), some (.inl x1), some (.inl s.1), z3] [] s.2) s := by
  intro s h0
  refine lpO_sound (P := (fun s : Int32 × px_M => ∀ (z3 : Option px_V), px_W C k 12 [some (.inr (.inr (some x0))), some (.inl x1), some (.inl s.1), z3] [] s.2)) (fun s hs => ?_) h0
  obtain ⟨x2, σ⟩ := s
  intro z3
  refine px_runG (h - 1) ck_9030 [] [(35, kp_9030_35 (fun y0 y1 y2 y3 τ => y0 = x0 ∧ y1 = x1 ∧ oW (f_9030_35 (px_tb C) g9030 g9031 g9032 τ y0 y1 y2 y3) (Sum.elim (fun s : Int32 × px_M => ∀ (z3 : Option px_V), px_W C k 12 [some (.inr (.inr (some x0))), some (.inl x1), some (.inl s.1), z3] [] s.2) (fun q => k (some (.inl q.1)) q.2)))), (95, kp_9030_95 (fun τ => oW (f_9030_95 (px_tb C) g9030 g9031 g9032 τ) (fun q => k (some (.inl q.1)) q.2)))] 80 hC px_nosp (by omega) (px_cut1 (kq_9030_35 (fun y0 y1 y2 y3 τ hq => by obtain ⟨rfl, rfl, hq⟩ := hq; exact rl_9030_35 hn (by omega) hC hg9030 hg9031 hg9032  hq)) (px_cut1 (kq_9030_95 (fun τ hq => by exact rl_9030_95 hn (by omega) hC hg9030 hg9031 hg9032  hq)) px_nocut)) (fun G Jf hG hJf => ?_)
  simp only [F_9030_12, oW_some, oW_none, oW_bind, oW_map, oW_ite, oW_bn, oW_gd, oW_oA, Sum.elim_inl, Sum.elim_inr, oW_and, true_and, and_true, false_and, and_false, true_or, or_true, false_or, or_false, and_self, or_self, not_false_eq_true, not_true_eq_false, false_implies, forall_const, true_implies, eq_self, ↓reduceIte] at hs
  simp only [↓hG, ↓hJf, ↓px_vc, ↓px_ex, ↓px_jp, ↓px_gi, ↓px_gl, ↓px_gr, ↓px_s1, ↓px_s2, ↓px_nl, ↓px_i1, ↓px_l1, ↓px_r1_o, ↓px_q1, ↓px_i2, ↓px_l2, ↓px_il, ↓px_d0, ↓px_d1, ↓px_d2, ↓px_pop, px_sz, ↓px_sp, ↓px_rd, ↓px_rf, ↓pn_xf, ↓px_pt, ↓px_rok, ↓px_rv_o, ↓px_fill, ↓px_sl, ↓px_sw, ↓pn_SW, lc_lt, lc_ge, lc_gt, lc_le, lc_eq, ↓reduceIte, Nat.reduceEqDiff, Nat.reduceLeDiff, Nat.reduceAdd, Nat.reduceSub, reduceCtorEq, List.length_cons, List.length_nil, Option.toList_some, Option.toList_none, List.cons_append, List.nil_append, true_and, and_true, false_and, and_false, true_or, or_true, false_or, or_false, and_self, or_self, not_false_eq_true, not_true_eq_false, false_implies, forall_const, true_implies, eq_self, ↓kI_s, ↓kJ_s, ↓kN_s, ↓kO_s, ↓kZ_s, ↓kE_s, oW_and, ↓bk_9030, ↓pn_i9030, oW_some, oW_none, oW_bind, oW_map, oW_ite, oW_bn, oW_gd, oW_oA, Sum.elim_inl, Sum.elim_inr, ↓kp_9030_35, ↓kp_9030_95]
  exact hs
set_option maxHeartbeats 4000000 in
set_option maxRecDepth 100000 in
theorem mF_9030 {tab : px_T} (hn : px_nd tab) {h : Nat} (hh : 3 ≤ h) {g9030 : px_M → Nat → Int32 → Option (Int32 × px_M)} {g9031 : px_M → Nat → Int32 → Option (Int32 × px_M)} {g9032 : px_M → Nat → Int32 → Option (Int32 × px_M)} (hg9030 : px_Ok tab pn_i9030 (h - 1) (Sg_9030 g9030)) (hg9031 : px_Ok tab pn_i9031 (h - 1) (Sg_9031 g9031)) (hg9032 : px_Ok tab pn_i9032 (h - 1) (Sg_9032 g9032)) : px_Ok tab pn_i9030 h (Sg_9030 (F_9030 tab g9030 g9031 g9032)) := by
  refine px_mth hn (by decide +kernel) (fun av σ k hS => ?_) (fun C hT hC av σ k hS => ?_)
  · obtain ⟨x0, av0, e0, h0⟩ := px_r1_spec hS
    obtain ⟨x1, av1, e1, h1⟩ := px_i1_spec h0
    obtain ⟨ez, hz⟩ := h1
    subst ez
    subst e1
    subst e0
    exact Nat.le_of_ble_eq_true rfl
  · obtain ⟨x0, av0, e0, h0⟩ := px_r1_spec hS
    obtain ⟨x1, av1, e1, h1⟩ := px_i1_spec h0
    obtain ⟨ez, hz⟩ := h1
    subst ez
    subst e1
    subst e0
    subst hT
    refine px_runG (h - 1) ck_9030 [(9031, Sg_9031 g9031)] [(12, kp_9030_12 (fun y0 y1 y2 τ => oW (f_9030_12 (px_tb C) g9030 g9031 g9032 y0 y1 y2 τ) (fun q => k (some (.inl q.1)) q.2)))] 80 hC (px_sp1 (hg9031) px_nosp) (by omega) (px_cut1 (kq_9030_12 (fun y0 y1 y2 τ hq => by exact rl_9030_12 hn (by omega) hC hg9030 hg9031 hg9032 (y2, τ) hq)) px_nocut) (fun G Jf hG hJf => ?_)
    simp only [F_9030, oW_some, oW_none, oW_bind, oW_map, oW_ite, oW_bn, oW_gd, oW_oA, Sum.elim_inl, Sum.elim_inr, oW_and, true_and, and_true, false_and, and_false, true_or, or_true, false_or, or_false, and_self, or_self, not_false_eq_true, not_true_eq_false, false_implies, forall_const, true_implies, eq_self, ↓reduceIte] at hz
    simp only [↓hG, ↓hJf, ↓px_vc, ↓px_ex, ↓px_jp, ↓px_gi, ↓px_gl, ↓px_gr, ↓px_s1, ↓px_s2, ↓px_nl, ↓px_i1, ↓px_l1, ↓px_r1_o, ↓px_q1, ↓px_i2, ↓px_l2, ↓px_il, ↓px_d0, ↓px_d1, ↓px_d2, ↓px_pop, px_sz, ↓px_sp, ↓px_rd, ↓px_rf, ↓pn_xf, ↓px_pt, ↓px_rok, ↓px_rv_o, ↓px_fill, ↓px_sl, ↓px_sw, ↓pn_SW, lc_lt, lc_ge, lc_gt, lc_le, lc_eq, ↓reduceIte, Nat.reduceEqDiff, Nat.reduceLeDiff, Nat.reduceAdd, Nat.reduceSub, reduceCtorEq, List.length_cons, List.length_nil, Option.toList_some, Option.toList_none, List.cons_append, List.nil_append, true_and, and_true, false_and, and_false, true_or, or_true, false_or, or_false, and_self, or_self, not_false_eq_true, not_true_eq_false, false_implies, forall_const, true_implies, eq_self, ↓kI_s, ↓kJ_s, ↓kN_s, ↓kO_s, ↓kZ_s, ↓kE_s, oW_and, ↓bk_9030, ↓pn_i9030, oW_some, oW_none, oW_bind, oW_map, oW_ite, oW_bn, oW_gd, oW_oA, Sum.elim_inl, Sum.elim_inr, ↓Sg_9031, ↓kp_9030_12]
    exact hz
/-- NoThree$Reader.readTerm(I)Z -/
noncomputable def f_9031_56 (tab : px_T) (g9030 : px_M → Nat → Int32 → Option (Int32 × px_M)) (g9031 : px_M → Nat → Int32 → Option (Int32 × px_M)) (g9032 : px_M → Nat → Int32 → Option (Int32 × px_M)) (σ : px_M) (x0 : Nat) (x1 : Int32) (x2 : Int32) : Option ((Int32 × px_M) ⊕ (Int32 × px_M)) := some (.inl (((x2 + (nI 1)), σ)))
noncomputable def F_9031_12 (tab : px_T) (g9030 : px_M → Nat → Int32 → Option (Int32 × px_M)) (g9031 : px_M → Nat → Int32 → Option (Int32 × px_M)) (g9032 : px_M → Nat → Int32 → Option (Int32 × px_M)) (x0 : Nat) (x1 : Int32) (x2 : Int32) (σ : px_M) : Option ((Int32 × px_M) ⊕ (Int32 × px_M)) := if (nI 900) ≤ x2 then (some (.inr (((nI 1), σ)))) else (gd (px_obj (px_lay tab x0) 9) (bn (((σ).1 x0 9) = (nI 4042)) (some (.inr (((nI 1), σ)))) (gd (px_obj (px_lay tab x0) 9) ((f_9015 tab σ x0).bind fun q1 => gd (px_obj (px_lay tab x0) 9) ((g9032 q1 x0 x1).bind fun q2 => bn (q2.1 = nI 0) (gd (px_obj (px_lay tab x0) 9) ((((q2.2).2.2 x0 3)).bind fun n3 => gd (px_obj (px_lay tab n3) 1) ((((q2.2).2.2 n3 1)).bind fun n4 => gd (px_obj (px_lay tab n4) 10) ((f_10004 tab q2.2 n4 ((nI 2002))).bind fun q5 => f_9031_56 tab g9030 g9031 g9032 q5 x0 x1 x2)))) (some (.inr (((nI 0), q2.2)))))))))
noncomputable def f_9031_12 (tab : px_T) (g9030 : px_M → Nat → Int32 → Option (Int32 × px_M)) (g9031 : px_M → Nat → Int32 → Option (Int32 × px_M)) (g9032 : px_M → Nat → Int32 → Option (Int32 × px_M)) (x0 : Nat) (x1 : Int32) (x2 : Int32) (σ : px_M) : Option (Int32 × px_M) := lpO (fun s : Int32 × px_M => F_9031_12 tab g9030 g9031 g9032 x0 x1 s.1 s.2) (x2, σ)
theorem f_9031_12_eq (tab : px_T) (g9030 : px_M → Nat → Int32 → Option (Int32 × px_M)) (g9031 : px_M → Nat → Int32 → Option (Int32 × px_M)) (g9032 : px_M → Nat → Int32 → Option (Int32 × px_M)) (x0 : Nat) (x1 : Int32) (x2 : Int32) (σ : px_M) : f_9031_12 tab g9030 g9031 g9032 x0 x1 x2 σ = (F_9031_12 tab g9030 g9031 g9032 x0 x1 x2 σ).bind (Sum.elim (fun s => f_9031_12 tab g9030 g9031 g9032 x0 x1 s.1 s.2) some) := lpO_eq _ _
noncomputable def F_9031 (tab : px_T) (g9030 : px_M → Nat → Int32 → Option (Int32 × px_M)) (g9031 : px_M → Nat → Int32 → Option (Int32 × px_M)) (g9032 : px_M → Nat → Int32 → Option (Int32 × px_M)) (σ : px_M) (x0 : Nat) (x1 : Int32) : Option (Int32 × px_M) := gd (px_obj (px_lay tab x0) 9) ((g9032 σ x0 x1).bind fun q1 => bn (q1.1 = nI 0) (f_9031_12 tab g9030 g9031 g9032 x0 x1 ((nI 0)) q1.2) (some (((nI 0), q1.2))))
def kp_9031_56 (Q : Nat → Int32 → Int32 → px_M → Prop) : px_P := fun ls st τ => st = [] ∧ kN ls (fun x0 ls => kI ls (fun x1 ls => kI ls (fun x2 ls => kE ls (Q x0 x1 x2 τ))))
theorem kq_9031_56 {C : px_C} {k : Option px_V → px_M → Prop} {Q : Nat → Int32 → Int32 → px_M → Prop} (H : ∀ (x0 : Nat) (x1 : Int32) (x2 : Int32) (τ : px_M), Q x0 x1 x2 τ → px_W C k 56 [some (.inr (.inr (some x0))), some (.inl x1), some (.inl x2)] [] τ) : ∀ ls st τ, kp_9031_56 Q ls st τ → px_W C k 56 ls st τ := by
  intro ls st τ hz
  obtain ⟨ez, h0⟩ := hz
  obtain ⟨x0, l0, e0, h1⟩ := kN_sp h0
  obtain ⟨x1, l1, e1, h2⟩ := kI_sp h1
  obtain ⟨x2, l2, e2, h3⟩ := kI_sp h2
  obtain ⟨ey, hy⟩ := kE_sp h3
  subst ez
  subst ey
  subst e2
  subst e1
  subst e0
  exact H x0 x1 x2 τ hy
def kp_9031_12 (Q : Nat → Int32 → Int32 → px_M → Prop) : px_P := fun ls st τ => st = [] ∧ kN ls (fun x0 ls => kI ls (fun x1 ls => kI ls (fun x2 ls => kE ls (Q x0 x1 x2 τ))))
theorem kq_9031_12 {C : px_C} {k : Option px_V → px_M → Prop} {Q : Nat → Int32 → Int32 → px_M → Prop} (H : ∀ (x0 : Nat) (x1 : Int32) (x2 : Int32) (τ : px_M), Q x0 x1 x2 τ → px_W C k 12 [some (.inr (.inr (some x0))), some (.inl x1), some (.inl x2)] [] τ) : ∀ ls st τ, kp_9031_12 Q ls st τ → px_W C k 12 ls st τ := by
  intro ls st τ hz
  obtain ⟨ez, h0⟩ := hz
  obtain ⟨x0, l0, e0, h1⟩ := kN_sp h0
  obtain ⟨x1, l1, e1, h2⟩ := kI_sp h1
  obtain ⟨x2, l2, e2, h3⟩ := kI_sp h2
  obtain ⟨ey, hy⟩ := kE_sp h3
  subst ez
  subst ey
  subst e2
  subst e1
  subst e0
  exact H x0 x1 x2 τ hy
set_option maxHeartbeats 4000000 in
set_option maxRecDepth 100000 in
theorem rl_9031_56 {C : px_C} (hn : px_nd (px_tb C)) {h : Nat} (hh : 3 ≤ h) (hC : px_ok C pn_i9031 h) {g9030 : px_M → Nat → Int32 → Option (Int32 × px_M)} {g9031 : px_M → Nat → Int32 → Option (Int32 × px_M)} {g9032 : px_M → Nat → Int32 → Option (Int32 × px_M)} (hg9030 : px_Ok (px_tb C) pn_i9030 (h - 1) (Sg_9030 g9030)) (hg9031 : px_Ok (px_tb C) pn_i9031 (h - 1) (Sg_9031 g9031)) (hg9032 : px_Ok (px_tb C) pn_i9032 (h - 1) (Sg_9032 g9032)) {k : Option px_V → px_M → Prop} {x0 : Nat} {x1 : Int32} {x2 : Int32} {σ : px_M} (hs : oW (f_9031_56 (px_tb C) g9030 g9031 g9032 σ x0 x1 x2) (Sum.elim (fun s : Int32 × px_M => px_W C k 12 [some (.inr (.inr (some x0))), some (.inl x1), some (.inl s.1)] [] s.2) (fun q => k (some (.inl q.1)) q.2))) : px_W C k 56 [some (.inr (.inr (some x0))), some (.inl x1), some (.inl x2)] [] σ := by
  refine px_runG (h - 1) ck_9031 [] [(12, kp_9031_12 (fun y0 y1 y2 τ => y0 = x0 ∧ y1 = x1 ∧ (fun s : Int32 × px_M => px_W C k 12 [some (.inr (.inr (some x0))), some (.inl x1), some (.inl s.1)] [] s.2) (y2, τ)))] 80 hC px_nosp (by omega) (px_cut1 (kq_9031_12 (fun y0 y1 y2 τ hq => by obtain ⟨rfl, rfl, hq⟩ := hq; exact hq)) px_nocut) (fun G Jf hG hJf => ?_)
  simp only [f_9031_56, oW_some, oW_none, oW_bind, oW_map, oW_ite, oW_bn, oW_gd, oW_oA, Sum.elim_inl, Sum.elim_inr, oW_and, true_and, and_true, false_and, and_false, true_or, or_true, false_or, or_false, and_self, or_self, not_false_eq_true, not_true_eq_false, false_implies, forall_const, true_implies, eq_self, ↓reduceIte] at hs
  simp only [↓hG, ↓hJf, ↓px_vc, ↓px_ex, ↓px_jp, ↓px_gi, ↓px_gl, ↓px_gr, ↓px_s1, ↓px_s2, ↓px_nl, ↓px_i1, ↓px_l1, ↓px_r1_o, ↓px_q1, ↓px_i2, ↓px_l2, ↓px_il, ↓px_d0, ↓px_d1, ↓px_d2, ↓px_pop, px_sz, ↓px_sp, ↓px_rd, ↓px_rf, ↓pn_xf, ↓px_pt, ↓px_rok, ↓px_rv_o, ↓px_fill, ↓px_sl, ↓px_sw, ↓pn_SW, lc_lt, lc_ge, lc_gt, lc_le, lc_eq, ↓reduceIte, Nat.reduceEqDiff, Nat.reduceLeDiff, Nat.reduceAdd, Nat.reduceSub, reduceCtorEq, List.length_cons, List.length_nil, Option.toList_some, Option.toList_none, List.cons_append, List.nil_append, true_and, and_true, false_and, and_false, true_or, or_true, false_or, or_false, and_self, or_self, not_false_eq_true, not_true_eq_false, false_implies, forall_const, true_implies, eq_self, ↓kI_s, ↓kJ_s, ↓kN_s, ↓kO_s, ↓kZ_s, ↓kE_s, oW_and, ↓bk_9031, ↓pn_i9031, oW_some, oW_none, oW_bind, oW_map, oW_ite, oW_bn, oW_gd, oW_oA, Sum.elim_inl, Sum.elim_inr, ↓kp_9031_12]
  exact hs
set_option maxHeartbeats 4000000 in
set_option maxRecDepth 100000 in
theorem rl_9031_12 {C : px_C} (hn : px_nd (px_tb C)) {h : Nat} (hh : 3 ≤ h) (hC : px_ok C pn_i9031 h) {g9030 : px_M → Nat → Int32 → Option (Int32 × px_M)} {g9031 : px_M → Nat → Int32 → Option (Int32 × px_M)} {g9032 : px_M → Nat → Int32 → Option (Int32 × px_M)} (hg9030 : px_Ok (px_tb C) pn_i9030 (h - 1) (Sg_9030 g9030)) (hg9031 : px_Ok (px_tb C) pn_i9031 (h - 1) (Sg_9031 g9031)) (hg9032 : px_Ok (px_tb C) pn_i9032 (h - 1) (Sg_9032 g9032)) {k : Option px_V → px_M → Prop} {x0 : Nat} {x1 : Int32} : ∀ s : Int32 × px_M, oW (f_9031_12 (px_tb C) g9030 g9031 g9032 x0 x1 s.1 s.2) (fun q => k (some (.inl q.1)) q.2) → (fun s : Int32 × px_M => px_W C k 12 [some (.inr (.inr (some x0))), some (.inl x1), some (.inl s.1)] [] s.2) s := by
  intro s h0
  refine lpO_sound (P := (fun s : Int32 × px_M => px_W C k 12 [some (.inr (.inr (some x0))), some (.inl x1), some (.inl s.1)] [] s.2)) (fun s hs => ?_) h0
  obtain ⟨x2, σ⟩ := s
  refine px_runG (h - 1) ck_9031 [(9015, Sg_9015 (f_9015 (px_tb C))), (9032, Sg_9032 g9032), (10004, Sg_10004 (f_10004 (px_tb C)))] [(56, kp_9031_56 (fun y0 y1 y2 τ => y0 = x0 ∧ y1 = x1 ∧ oW (f_9031_56 (px_tb C) g9030 g9031 g9032 τ y0 y1 y2) (Sum.elim (fun s : Int32 × px_M => px_W C k 12 [some (.inr (.inr (some x0))), some (.inl x1), some (.inl s.1)] [] s.2) (fun q => k (some (.inl q.1)) q.2))))] 80 hC (px_sp1 (mf_9015 hn (by omega)) (px_sp1 (hg9032) (px_sp1 (mf_10004 hn (by omega)) px_nosp))) (by omega) (px_cut1 (kq_9031_56 (fun y0 y1 y2 τ hq => by obtain ⟨rfl, rfl, hq⟩ := hq; exact rl_9031_56 hn (by omega) hC hg9030 hg9031 hg9032  hq)) px_nocut) (fun G Jf hG hJf => ?_)
  simp only [F_9031_12, oW_some, oW_none, oW_bind, oW_map, oW_ite, oW_bn, oW_gd, oW_oA, Sum.elim_inl, Sum.elim_inr, oW_and, true_and, and_true, false_and, and_false, true_or, or_true, false_or, or_false, and_self, or_self, not_false_eq_true, not_true_eq_false, false_implies, forall_const, true_implies, eq_self, ↓reduceIte] at hs
  simp only [↓hG, ↓hJf, ↓px_vc, ↓px_ex, ↓px_jp, ↓px_gi, ↓px_gl, ↓px_gr, ↓px_s1, ↓px_s2, ↓px_nl, ↓px_i1, ↓px_l1, ↓px_r1_o, ↓px_q1, ↓px_i2, ↓px_l2, ↓px_il, ↓px_d0, ↓px_d1, ↓px_d2, ↓px_pop, px_sz, ↓px_sp, ↓px_rd, ↓px_rf, ↓pn_xf, ↓px_pt, ↓px_rok, ↓px_rv_o, ↓px_fill, ↓px_sl, ↓px_sw, ↓pn_SW, lc_lt, lc_ge, lc_gt, lc_le, lc_eq, ↓reduceIte, Nat.reduceEqDiff, Nat.reduceLeDiff, Nat.reduceAdd, Nat.reduceSub, reduceCtorEq, List.length_cons, List.length_nil, Option.toList_some, Option.toList_none, List.cons_append, List.nil_append, true_and, and_true, false_and, and_false, true_or, or_true, false_or, or_false, and_self, or_self, not_false_eq_true, not_true_eq_false, false_implies, forall_const, true_implies, eq_self, ↓kI_s, ↓kJ_s, ↓kN_s, ↓kO_s, ↓kZ_s, ↓kE_s, oW_and, ↓bk_9031, ↓pn_i9031, oW_some, oW_none, oW_bind, oW_map, oW_ite, oW_bn, oW_gd, oW_oA, Sum.elim_inl, Sum.elim_inr, ↓Sg_9015, ↓Sg_9032, ↓Sg_10004, ↓kp_9031_56]
  exact hs
set_option maxHeartbeats 4000000 in
set_option maxRecDepth 100000 in
theorem mF_9031 {tab : px_T} (hn : px_nd tab) {h : Nat} (hh : 3 ≤ h) {g9030 : px_M → Nat → Int32 → Option (Int32 × px_M)} {g9031 : px_M → Nat → Int32 → Option (Int32 × px_M)} {g9032 : px_M → Nat → Int32 → Option (Int32 × px_M)} (hg9030 : px_Ok tab pn_i9030 (h - 1) (Sg_9030 g9030)) (hg9031 : px_Ok tab pn_i9031 (h - 1) (Sg_9031 g9031)) (hg9032 : px_Ok tab pn_i9032 (h - 1) (Sg_9032 g9032)) : px_Ok tab pn_i9031 h (Sg_9031 (F_9031 tab g9030 g9031 g9032)) := by
  refine px_mth hn (by decide +kernel) (fun av σ k hS => ?_) (fun C hT hC av σ k hS => ?_)
  · obtain ⟨x0, av0, e0, h0⟩ := px_r1_spec hS
    obtain ⟨x1, av1, e1, h1⟩ := px_i1_spec h0
    obtain ⟨ez, hz⟩ := h1
    subst ez
    subst e1
    subst e0
    exact Nat.le_of_ble_eq_true rfl
  · obtain ⟨x0, av0, e0, h0⟩ := px_r1_spec hS
    obtain ⟨x1, av1, e1, h1⟩ := px_i1_spec h0
    obtain ⟨ez, hz⟩ := h1
    subst ez
    subst e1
    subst e0
    subst hT
    refine px_runG (h - 1) ck_9031 [(9032, Sg_9032 g9032)] [(12, kp_9031_12 (fun y0 y1 y2 τ => oW (f_9031_12 (px_tb C) g9030 g9031 g9032 y0 y1 y2 τ) (fun q => k (some (.inl q.1)) q.2)))] 80 hC (px_sp1 (hg9032) px_nosp) (by omega) (px_cut1 (kq_9031_12 (fun y0 y1 y2 τ hq => by exact rl_9031_12 hn (by omega) hC hg9030 hg9031 hg9032 (y2, τ) hq)) px_nocut) (fun G Jf hG hJf => ?_)
    simp only [F_9031, oW_some, oW_none, oW_bind, oW_map, oW_ite, oW_bn, oW_gd, oW_oA, Sum.elim_inl, Sum.elim_inr, oW_and, true_and, and_true, false_and, and_false, true_or, or_true, false_or, or_false, and_self, or_self, not_false_eq_true, not_true_eq_false, false_implies, forall_const, true_implies, eq_self, ↓reduceIte] at hz
    simp only [↓hG, ↓hJf, ↓px_vc, ↓px_ex, ↓px_jp, ↓px_gi, ↓px_gl, ↓px_gr, ↓px_s1, ↓px_s2, ↓px_nl, ↓px_i1, ↓px_l1, ↓px_r1_o, ↓px_q1, ↓px_i2, ↓px_l2, ↓px_il, ↓px_d0, ↓px_d1, ↓px_d2, ↓px_pop, px_sz, ↓px_sp, ↓px_rd, ↓px_rf, ↓pn_xf, ↓px_pt, ↓px_rok, ↓px_rv_o, ↓px_fill, ↓px_sl, ↓px_sw, ↓pn_SW, lc_lt, lc_ge, lc_gt, lc_le, lc_eq, ↓reduceIte, Nat.reduceEqDiff, Nat.reduceLeDiff, Nat.reduceAdd, Nat.reduceSub, reduceCtorEq, List.length_cons, List.length_nil, Option.toList_some, Option.toList_none, List.cons_append, List.nil_append, true_and, and_true, false_and, and_false, true_or, or_true, false_or, or_false, and_self, or_self, not_false_eq_true, not_true_eq_false, false_implies, forall_const, true_implies, eq_self, ↓kI_s, ↓kJ_s, ↓kN_s, ↓kO_s, ↓kZ_s, ↓kE_s, oW_and, ↓bk_9031, ↓pn_i9031, oW_some, oW_none, oW_bind, oW_map, oW_ite, oW_bn, oW_gd, oW_oA, Sum.elim_inl, Sum.elim_inr, ↓Sg_9032, ↓kp_9031_12]
    exact hz
/-- NoThree$Reader.readAtom(I)Z -/
noncomputable def f_9032_90 (tab : px_T) (g9030 : px_M → Nat → Int32 → Option (Int32 × px_M)) (g9031 : px_M → Nat → Int32 → Option (Int32 × px_M)) (g9032 : px_M → Nat → Int32 → Option (Int32 × px_M)) (σ : px_M) : Option (Int32 × px_M) := some (((nI 0), σ))
noncomputable def f_9032_66 (tab : px_T) (g9030 : px_M → Nat → Int32 → Option (Int32 × px_M)) (g9031 : px_M → Nat → Int32 → Option (Int32 × px_M)) (g9032 : px_M → Nat → Int32 → Option (Int32 × px_M)) (σ : px_M) (x0 : Nat) (x1 : Int32) : Option (Int32 × px_M) := gd (px_obj (px_lay tab x0) 9) ((g9030 σ x0 ((x1 + (nI 1)))).bind fun q1 => if q1.1 = nI 0 then (f_9032_90 tab g9030 g9031 g9032 q1.2) else (gd (px_obj (px_lay tab x0) 9) ((f_9019 tab q1.2 x0 ((nI 4041))).bind fun q2 => if q2.1 = nI 0 then (f_9032_90 tab g9030 g9031 g9032 q2.2) else (some (((nI 1), q2.2))))))
noncomputable def f_9032_14 (tab : px_T) (g9030 : px_M → Nat → Int32 → Option (Int32 × px_M)) (g9031 : px_M → Nat → Int32 → Option (Int32 × px_M)) (g9032 : px_M → Nat → Int32 → Option (Int32 × px_M)) (σ : px_M) (x0 : Nat) : Option (Int32 × px_M) := gd (px_obj (px_lay tab x0) 9) ((((σ).2.2 x0 3)).bind fun n1 => gd (px_obj (px_lay tab n1) 1) (gd (px_obj (px_lay tab x0) 9) ((((σ).2.2 n1 1)).bind fun n2 => gd (px_obj (px_lay tab n2) 10) ((f_10004 tab σ n2 (((σ).1 x0 9))).bind fun q3 => gd (px_obj (px_lay tab x0) 9) ((f_9015 tab q3 x0).bind fun q4 => some (((nI 1), q4)))))))
noncomputable def F_9032 (tab : px_T) (g9030 : px_M → Nat → Int32 → Option (Int32 × px_M)) (g9031 : px_M → Nat → Int32 → Option (Int32 × px_M)) (g9032 : px_M → Nat → Int32 → Option (Int32 × px_M)) (σ : px_M) (x0 : Nat) (x1 : Int32) : Option (Int32 × px_M) := gd (px_obj (px_lay tab x0) 9) ((f_9016 tab σ x0).bind fun r1 => bn (r1 = nI 0) (f_9032_14 tab g9030 g9031 g9032 σ x0) (gd (px_obj (px_lay tab x0) 9) ((f_9017 tab σ x0).bind fun r2 => if r2 = nI 0 then (gd (px_obj (px_lay tab x0) 9) (if ((σ).1 x0 9) = (nI 4040) then (if x1 < (nI 6) then (gd (px_obj (px_lay tab x0) 9) ((f_9015 tab σ x0).bind fun q3 => f_9032_66 tab g9030 g9031 g9032 q3 x0 x1)) else (gd (px_obj (px_lay tab x0) 9) ((f_9018 tab σ x0 ((nI 4))).bind fun q4 => gd (q4.1 = nI 0 ∨ q4.1 = nI 1) (some ((q4.1, q4.2)))))) else (gd (px_obj (px_lay tab x0) 9) ((f_9018 tab σ x0 ((nI 2))).bind fun q5 => gd (q5.1 = nI 0 ∨ q5.1 = nI 1) (some ((q5.1, q5.2))))))) else (f_9032_14 tab g9030 g9031 g9032 σ x0))))
def kp_9032_90 (Q : px_M → Prop) : px_P := fun ls st τ => st = [] ∧ kZ ls (fun ls => kZ ls (fun ls => kE ls (Q τ)))
theorem kq_9032_90 {C : px_C} {k : Option px_V → px_M → Prop} {Q : px_M → Prop} (H : ∀ (τ : px_M), Q τ → ∀ (z0 : Option px_V) (z1 : Option px_V), px_W C k 90 [z0, z1] [] τ) : ∀ ls st τ, kp_9032_90 Q ls st τ → px_W C k 90 ls st τ := by
  intro ls st τ hz
  obtain ⟨ez, h0⟩ := hz
  obtain ⟨z0, l0, e0, h1⟩ := kZ_sp h0
  obtain ⟨z1, l1, e1, h2⟩ := kZ_sp h1
  obtain ⟨ey, hy⟩ := kE_sp h2
  subst ez
  subst ey
  subst e1
  subst e0
  exact H τ hy z0 z1
def kp_9032_66 (Q : Nat → Int32 → px_M → Prop) : px_P := fun ls st τ => st = [] ∧ kN ls (fun x0 ls => kI ls (fun x1 ls => kE ls (Q x0 x1 τ)))
theorem kq_9032_66 {C : px_C} {k : Option px_V → px_M → Prop} {Q : Nat → Int32 → px_M → Prop} (H : ∀ (x0 : Nat) (x1 : Int32) (τ : px_M), Q x0 x1 τ → px_W C k 66 [some (.inr (.inr (some x0))), some (.inl x1)] [] τ) : ∀ ls st τ, kp_9032_66 Q ls st τ → px_W C k 66 ls st τ := by
  intro ls st τ hz
  obtain ⟨ez, h0⟩ := hz
  obtain ⟨x0, l0, e0, h1⟩ := kN_sp h0
  obtain ⟨x1, l1, e1, h2⟩ := kI_sp h1
  obtain ⟨ey, hy⟩ := kE_sp h2
  subst ez
  subst ey
  subst e1
  subst e0
  exact H x0 x1 τ hy
def kp_9032_14 (Q : Nat → px_M → Prop) : px_P := fun ls st τ => st = [] ∧ kN ls (fun x0 ls => kZ ls (fun ls => kE ls (Q x0 τ)))
theorem kq_9032_14 {C : px_C} {k : Option px_V → px_M → Prop} {Q : Nat → px_M → Prop} (H : ∀ (x0 : Nat) (τ : px_M), Q x0 τ → ∀ (z1 : Option px_V), px_W C k 14 [some (.inr (.inr (some x0))), z1] [] τ) : ∀ ls st τ, kp_9032_14 Q ls st τ → px_W C k 14 ls st τ := by
  intro ls st τ hz
  obtain ⟨ez, h0⟩ := hz
  obtain ⟨x0, l0, e0, h1⟩ := kN_sp h0
  obtain ⟨z1, l1, e1, h2⟩ := kZ_sp h1
  obtain ⟨ey, hy⟩ := kE_sp h2
  subst ez
  subst ey
  subst e1
  subst e0
  exact H x0 τ hy z1
set_option maxHeartbeats 4000000 in
set_option maxRecDepth 100000 in
theorem rl_9032_90 {C : px_C} (hn : px_nd (px_tb C)) {h : Nat} (hh : 3 ≤ h) (hC : px_ok C pn_i9032 h) {g9030 : px_M → Nat → Int32 → Option (Int32 × px_M)} {g9031 : px_M → Nat → Int32 → Option (Int32 × px_M)} {g9032 : px_M → Nat → Int32 → Option (Int32 × px_M)} (hg9030 : px_Ok (px_tb C) pn_i9030 (h - 1) (Sg_9030 g9030)) (hg9031 : px_Ok (px_tb C) pn_i9031 (h - 1) (Sg_9031 g9031)) (hg9032 : px_Ok (px_tb C) pn_i9032 (h - 1) (Sg_9032 g9032)) {k : Option px_V → px_M → Prop} {σ : px_M} (hs : oW (f_9032_90 (px_tb C) g9030 g9031 g9032 σ) (fun q => k (some (.inl q.1)) q.2)) : ∀ (z0 : Option px_V) (z1 : Option px_V), px_W C k 90 [z0, z1] [] σ := by
  intro z0 z1
  refine px_runG (h - 1) ck_9032 [] [] 80 hC px_nosp (by omega) px_nocut (fun G Jf hG hJf => ?_)
  simp only [f_9032_90, oW_some, oW_none, oW_bind, oW_map, oW_ite, oW_bn, oW_gd, oW_oA, Sum.elim_inl, Sum.elim_inr, oW_and, true_and, and_true, false_and, and_false, true_or, or_true, false_or, or_false, and_self, or_self, not_false_eq_true, not_true_eq_false, false_implies, forall_const, true_implies, eq_self, ↓reduceIte] at hs
  simp only [↓hG, ↓hJf, ↓px_vc, ↓px_ex, ↓px_jp, ↓px_gi, ↓px_gl, ↓px_gr, ↓px_s1, ↓px_s2, ↓px_nl, ↓px_i1, ↓px_l1, ↓px_r1_o, ↓px_q1, ↓px_i2, ↓px_l2, ↓px_il, ↓px_d0, ↓px_d1, ↓px_d2, ↓px_pop, px_sz, ↓px_sp, ↓px_rd, ↓px_rf, ↓pn_xf, ↓px_pt, ↓px_rok, ↓px_rv_o, ↓px_fill, ↓px_sl, ↓px_sw, ↓pn_SW, lc_lt, lc_ge, lc_gt, lc_le, lc_eq, ↓reduceIte, Nat.reduceEqDiff, Nat.reduceLeDiff, Nat.reduceAdd, Nat.reduceSub, reduceCtorEq, List.length_cons, List.length_nil, Option.toList_some, Option.toList_none, List.cons_append, List.nil_append, true_and, and_true, false_and, and_false, true_or, or_true, false_or, or_false, and_self, or_self, not_false_eq_true, not_true_eq_false, false_implies, forall_const, true_implies, eq_self, ↓kI_s, ↓kJ_s, ↓kN_s, ↓kO_s, ↓kZ_s, ↓kE_s, oW_and, ↓bk_9032, ↓pn_i9032, oW_some, oW_none, oW_bind, oW_map, oW_ite, oW_bn, oW_gd, oW_oA, Sum.elim_inl, Sum.elim_inr]
  exact hs
set_option maxHeartbeats 4000000 in
set_option maxRecDepth 100000 in
theorem rl_9032_66 {C : px_C} (hn : px_nd (px_tb C)) {h : Nat} (hh : 3 ≤ h) (hC : px_ok C pn_i9032 h) {g9030 : px_M → Nat → Int32 → Option (Int32 × px_M)} {g9031 : px_M → Nat → Int32 → Option (Int32 × px_M)} {g9032 : px_M → Nat → Int32 → Option (Int32 × px_M)} (hg9030 : px_Ok (px_tb C) pn_i9030 (h - 1) (Sg_9030 g9030)) (hg9031 : px_Ok (px_tb C) pn_i9031 (h - 1) (Sg_9031 g9031)) (hg9032 : px_Ok (px_tb C) pn_i9032 (h - 1) (Sg_9032 g9032)) {k : Option px_V → px_M → Prop} {x0 : Nat} {x1 : Int32} {σ : px_M} (hs : oW (f_9032_66 (px_tb C) g9030 g9031 g9032 σ x0 x1) (fun q => k (some (.inl q.1)) q.2)) : px_W C k 66 [some (.inr (.inr (some x0))), some (.inl x1)] [] σ := by
  refine px_runG (h - 1) ck_9032 [(9019, Sg_9019 (f_9019 (px_tb C))), (9030, Sg_9030 g9030)] [(90, kp_9032_90 (fun τ => oW (f_9032_90 (px_tb C) g9030 g9031 g9032 τ) (fun q => k (some (.inl q.1)) q.2)))] 80 hC (px_sp1 (mf_9019 hn (by omega)) (px_sp1 (hg9030) px_nosp)) (by omega) (px_cut1 (kq_9032_90 (fun τ hq => by exact rl_9032_90 hn (by omega) hC hg9030 hg9031 hg9032  hq)) px_nocut) (fun G Jf hG hJf => ?_)
  simp only [f_9032_66, oW_some, oW_none, oW_bind, oW_map, oW_ite, oW_bn, oW_gd, oW_oA, Sum.elim_inl, Sum.elim_inr, oW_and, true_and, and_true, false_and, and_false, true_or, or_true, false_or, or_false, and_self, or_self, not_false_eq_true, not_true_eq_false, false_implies, forall_const, true_implies, eq_self, ↓reduceIte] at hs
  simp only [↓hG, ↓hJf, ↓px_vc, ↓px_ex, ↓px_jp, ↓px_gi, ↓px_gl, ↓px_gr, ↓px_s1, ↓px_s2, ↓px_nl, ↓px_i1, ↓px_l1, ↓px_r1_o, ↓px_q1, ↓px_i2, ↓px_l2, ↓px_il, ↓px_d0, ↓px_d1, ↓px_d2, ↓px_pop, px_sz, ↓px_sp, ↓px_rd, ↓px_rf, ↓pn_xf, ↓px_pt, ↓px_rok, ↓px_rv_o, ↓px_fill, ↓px_sl, ↓px_sw, ↓pn_SW, lc_lt, lc_ge, lc_gt, lc_le, lc_eq, ↓reduceIte, Nat.reduceEqDiff, Nat.reduceLeDiff, Nat.reduceAdd, Nat.reduceSub, reduceCtorEq, List.length_cons, List.length_nil, Option.toList_some, Option.toList_none, List.cons_append, List.nil_append, true_and, and_true, false_and, and_false, true_or, or_true, false_or, or_false, and_self, or_self, not_false_eq_true, not_true_eq_false, false_implies, forall_const, true_implies, eq_self, ↓kI_s, ↓kJ_s, ↓kN_s, ↓kO_s, ↓kZ_s, ↓kE_s, oW_and, ↓bk_9032, ↓pn_i9032, oW_some, oW_none, oW_bind, oW_map, oW_ite, oW_bn, oW_gd, oW_oA, Sum.elim_inl, Sum.elim_inr, ↓Sg_9019, ↓Sg_9030, ↓kp_9032_90]
  exact hs
set_option maxHeartbeats 4000000 in
set_option maxRecDepth 100000 in
theorem rl_9032_14 {C : px_C} (hn : px_nd (px_tb C)) {h : Nat} (hh : 3 ≤ h) (hC : px_ok C pn_i9032 h) {g9030 : px_M → Nat → Int32 → Option (Int32 × px_M)} {g9031 : px_M → Nat → Int32 → Option (Int32 × px_M)} {g9032 : px_M → Nat → Int32 → Option (Int32 × px_M)} (hg9030 : px_Ok (px_tb C) pn_i9030 (h - 1) (Sg_9030 g9030)) (hg9031 : px_Ok (px_tb C) pn_i9031 (h - 1) (Sg_9031 g9031)) (hg9032 : px_Ok (px_tb C) pn_i9032 (h - 1) (Sg_9032 g9032)) {k : Option px_V → px_M → Prop} {x0 : Nat} {σ : px_M} (hs : oW (f_9032_14 (px_tb C) g9030 g9031 g9032 σ x0) (fun q => k (some (.inl q.1)) q.2)) : ∀ (z1 : Option px_V), px_W C k 14 [some (.inr (.inr (some x0))), z1] [] σ := by
  intro z1
  refine px_runG (h - 1) ck_9032 [(9015, Sg_9015 (f_9015 (px_tb C))), (10004, Sg_10004 (f_10004 (px_tb C)))] [] 80 hC (px_sp1 (mf_9015 hn (by omega)) (px_sp1 (mf_10004 hn (by omega)) px_nosp)) (by omega) px_nocut (fun G Jf hG hJf => ?_)
  simp only [f_9032_14, oW_some, oW_none, oW_bind, oW_map, oW_ite, oW_bn, oW_gd, oW_oA, Sum.elim_inl, Sum.elim_inr, oW_and, true_and, and_true, false_and, and_false, true_or, or_true, false_or, or_false, and_self, or_self, not_false_eq_true, not_true_eq_false, false_implies, forall_const, true_implies, eq_self, ↓reduceIte] at hs
  simp only [↓hG, ↓hJf, ↓px_vc, ↓px_ex, ↓px_jp, ↓px_gi, ↓px_gl, ↓px_gr, ↓px_s1, ↓px_s2, ↓px_nl, ↓px_i1, ↓px_l1, ↓px_r1_o, ↓px_q1, ↓px_i2, ↓px_l2, ↓px_il, ↓px_d0, ↓px_d1, ↓px_d2, ↓px_pop, px_sz, ↓px_sp, ↓px_rd, ↓px_rf, ↓pn_xf, ↓px_pt, ↓px_rok, ↓px_rv_o, ↓px_fill, ↓px_sl, ↓px_sw, ↓pn_SW, lc_lt, lc_ge, lc_gt, lc_le, lc_eq, ↓reduceIte, Nat.reduceEqDiff, Nat.reduceLeDiff, Nat.reduceAdd, Nat.reduceSub, reduceCtorEq, List.length_cons, List.length_nil, Option.toList_some, Option.toList_none, List.cons_append, List.nil_append, true_and, and_true, false_and, and_false, true_or, or_true, false_or, or_false, and_self, or_self, not_false_eq_true, not_true_eq_false, false_implies, forall_const, true_implies, eq_self, ↓kI_s, ↓kJ_s, ↓kN_s, ↓kO_s, ↓kZ_s, ↓kE_s, oW_and, ↓bk_9032, ↓pn_i9032, oW_some, oW_none, oW_bind, oW_map, oW_ite, oW_bn, oW_gd, oW_oA, Sum.elim_inl, Sum.elim_inr, ↓Sg_9015, ↓Sg_10004]
  exact hs
set_option maxHeartbeats 4000000 in
set_option maxRecDepth 100000 in
theorem mF_9032 {tab : px_T} (hn : px_nd tab) {h : Nat} (hh : 3 ≤ h) {g9030 : px_M → Nat → Int32 → Option (Int32 × px_M)} {g9031 : px_M → Nat → Int32 → Option (Int32 × px_M)} {g9032 : px_M → Nat → Int32 → Option (Int32 × px_M)} (hg9030 : px_Ok tab pn_i9030 (h - 1) (Sg_9030 g9030)) (hg9031 : px_Ok tab pn_i9031 (h - 1) (Sg_9031 g9031)) (hg9032 : px_Ok tab pn_i9032 (h - 1) (Sg_9032 g9032)) : px_Ok tab pn_i9032 h (Sg_9032 (F_9032 tab g9030 g9031 g9032)) := by
  refine px_mth hn (by decide +kernel) (fun av σ k hS => ?_) (fun C hT hC av σ k hS => ?_)
  · obtain ⟨x0, av0, e0, h0⟩ := px_r1_spec hS
    obtain ⟨x1, av1, e1, h1⟩ := px_i1_spec h0
    obtain ⟨ez, hz⟩ := h1
    subst ez
    subst e1
    subst e0
    exact Nat.le_of_ble_eq_true rfl
  · obtain ⟨x0, av0, e0, h0⟩ := px_r1_spec hS
    obtain ⟨x1, av1, e1, h1⟩ := px_i1_spec h0
    obtain ⟨ez, hz⟩ := h1
    subst ez
    subst e1
    subst e0
    subst hT
    refine px_runG (h - 1) ck_9032 [(9015, Sg_9015 (f_9015 (px_tb C))), (9016, Sg_9016 (f_9016 (px_tb C))), (9017, Sg_9017 (f_9017 (px_tb C))), (9018, Sg_9018 (f_9018 (px_tb C)))] [(14, kp_9032_14 (fun y0 τ => oW (f_9032_14 (px_tb C) g9030 g9031 g9032 τ y0) (fun q => k (some (.inl q.1)) q.2))), (66, kp_9032_66 (fun y0 y1 τ => oW (f_9032_66 (px_tb C) g9030 g9031 g9032 τ y0 y1) (fun q => k (some (.inl q.1)) q.2)))] 80 hC (px_sp1 (mf_9015 hn (by omega)) (px_sp1 (mf_9016 hn (by omega)) (px_sp1 (mf_9017 hn (by omega)) (px_sp1 (mf_9018 hn (by omega)) px_nosp)))) (by omega) (px_cut1 (kq_9032_14 (fun y0 τ hq => by exact rl_9032_14 hn (by omega) hC hg9030 hg9031 hg9032  hq)) (px_cut1 (kq_9032_66 (fun y0 y1 τ hq => by exact rl_9032_66 hn (by omega) hC hg9030 hg9031 hg9032  hq)) px_nocut)) (fun G Jf hG hJf => ?_)
    simp only [F_9032, oW_some, oW_none, oW_bind, oW_map, oW_ite, oW_bn, oW_gd, oW_oA, Sum.elim_inl, Sum.elim_inr, oW_and, true_and, and_true, false_and, and_false, true_or, or_true, false_or, or_false, and_self, or_self, not_false_eq_true, not_true_eq_false, false_implies, forall_const, true_implies, eq_self, ↓reduceIte] at hz
    simp only [↓hG, ↓hJf, ↓px_vc, ↓px_ex, ↓px_jp, ↓px_gi, ↓px_gl, ↓px_gr, ↓px_s1, ↓px_s2, ↓px_nl, ↓px_i1, ↓px_l1, ↓px_r1_o, ↓px_q1, ↓px_i2, ↓px_l2, ↓px_il, ↓px_d0, ↓px_d1, ↓px_d2, ↓px_pop, px_sz, ↓px_sp, ↓px_rd, ↓px_rf, ↓pn_xf, ↓px_pt, ↓px_rok, ↓px_rv_o, ↓px_fill, ↓px_sl, ↓px_sw, ↓pn_SW, lc_lt, lc_ge, lc_gt, lc_le, lc_eq, ↓reduceIte, Nat.reduceEqDiff, Nat.reduceLeDiff, Nat.reduceAdd, Nat.reduceSub, reduceCtorEq, List.length_cons, List.length_nil, Option.toList_some, Option.toList_none, List.cons_append, List.nil_append, true_and, and_true, false_and, and_false, true_or, or_true, false_or, or_false, and_self, or_self, not_false_eq_true, not_true_eq_false, false_implies, forall_const, true_implies, eq_self, ↓kI_s, ↓kJ_s, ↓kN_s, ↓kO_s, ↓kZ_s, ↓kE_s, oW_and, ↓bk_9032, ↓pn_i9032, oW_some, oW_none, oW_bind, oW_map, oW_ite, oW_bn, oW_gd, oW_oA, Sum.elim_inl, Sum.elim_inr, ↓Sg_9015, ↓Sg_9016, ↓Sg_9017, ↓Sg_9018, ↓kp_9032_14, ↓kp_9032_66]
    exact hz
noncomputable def fr_9030 (tab : px_T) : Nat → (px_M → Nat → Int32 → Option (Int32 × px_M)) × (px_M → Nat → Int32 → Option (Int32 × px_M)) × (px_M → Nat → Int32 → Option (Int32 × px_M))
  | 0 => (fun _ _ _ => none, fun _ _ _ => none, fun _ _ _ => none)
  | d + 1 => (F_9030 tab ((fr_9030 tab d).1) ((fr_9030 tab d).2.1) ((fr_9030 tab d).2.2), F_9031 tab ((fr_9030 tab d).1) ((fr_9030 tab d).2.1) ((fr_9030 tab d).2.2), F_9032 tab ((fr_9030 tab d).1) ((fr_9030 tab d).2.1) ((fr_9030 tab d).2.2))
noncomputable def f_9030 (tab : px_T) (d : Nat) : px_M → Nat → Int32 → Option (Int32 × px_M) := (fr_9030 tab d).1
noncomputable def f_9031 (tab : px_T) (d : Nat) : px_M → Nat → Int32 → Option (Int32 × px_M) := (fr_9030 tab d).2.1
noncomputable def f_9032 (tab : px_T) (d : Nat) : px_M → Nat → Int32 → Option (Int32 × px_M) := (fr_9030 tab d).2.2
theorem f_9030_S (tab : px_T) (d : Nat) : f_9030 tab (d + 1) = F_9030 tab (f_9030 tab d) (f_9031 tab d) (f_9032 tab d) := rfl
theorem f_9031_S (tab : px_T) (d : Nat) : f_9031 tab (d + 1) = F_9031 tab (f_9030 tab d) (f_9031 tab d) (f_9032 tab d) := rfl
theorem f_9032_S (tab : px_T) (d : Nat) : f_9032 tab (d + 1) = F_9032 tab (f_9030 tab d) (f_9031 tab d) (f_9032 tab d) := rfl
theorem mr_f9030 {tab : px_T} (hn : px_nd tab) : ∀ (d h : Nat), 2 + d ≤ h → px_Ok tab pn_i9030 h (Sg_9030 (f_9030 tab d)) ∧ px_Ok tab pn_i9031 h (Sg_9031 (f_9031 tab d)) ∧ px_Ok tab pn_i9032 h (Sg_9032 (f_9032 tab d)) := by
  intro d
  induction d with
  | zero =>
    intro h hh
    exact ⟨px_Ok_no (fun av σ k h0 => by obtain ⟨x0, av0, -, h1⟩ := px_r1_spec h0; obtain ⟨x1, av1, -, h2⟩ := px_i1_spec h1; exact h2.2.elim), px_Ok_no (fun av σ k h0 => by obtain ⟨x0, av0, -, h1⟩ := px_r1_spec h0; obtain ⟨x1, av1, -, h2⟩ := px_i1_spec h1; exact h2.2.elim), px_Ok_no (fun av σ k h0 => by obtain ⟨x0, av0, -, h1⟩ := px_r1_spec h0; obtain ⟨x1, av1, -, h2⟩ := px_i1_spec h1; exact h2.2.elim)⟩
  | succ d ih =>
    intro h hh
    obtain ⟨h9030, h9031, h9032⟩ := ih (h - 1) (by omega)
    exact ⟨mF_9030 hn (by omega) h9030 h9031 h9032, mF_9031 hn (by omega) h9030 h9031 h9032, mF_9032 hn (by omega) h9030 h9031 h9032⟩
theorem mf_9030 {tab : px_T} (hn : px_nd tab) {h d : Nat} (hh : 2 + d ≤ h) : px_Ok tab pn_i9030 h (Sg_9030 (f_9030 tab d)) := (mr_f9030 hn d h hh).1
theorem mf_9031 {tab : px_T} (hn : px_nd tab) {h d : Nat} (hh : 2 + d ≤ h) : px_Ok tab pn_i9031 h (Sg_9031 (f_9031 tab d)) := (mr_f9030 hn d h hh).2.1
theorem mf_9032 {tab : px_T} (hn : px_nd tab) {h d : Nat} (hh : 2 + d ≤ h) : px_Ok tab pn_i9032 h (Sg_9032 (f_9032 tab d)) := (mr_f9030 hn d h hh).2.2
