/-! shallow functions, printed by wip/whole/decomp.py -/
/-- NoThree$Town.leastOddWalk(I)I -/
noncomputable def f_11030_55 (tab : px_T) (σ : px_M) (x0 : Nat) (x1 : Int32) (x2 : Int32) (x3 : Int32) (x4 : Int32) (x5 : Int32) (x6 : Int32) : Option ((Int32 × Int32 × Int32 × Int32) ⊕ (Int32)) := if x6 = nI 0 then (if x6 = nI 0 then (some (.inl (((x2 ||| x4), x3, x4, (x5 + (nI 1)))))) else (some (.inl ((x2, (x3 ||| x4), x4, (x5 + (nI 1))))))) else (if (x4 &&& ((nI 1) <<< (x1 &&& 31))) = nI 0 then (if x6 = nI 0 then (some (.inl (((x2 ||| x4), x3, x4, (x5 + (nI 1)))))) else (some (.inl ((x2, (x3 ||| x4), x4, (x5 + (nI 1))))))) else (some (.inr (x5))))
noncomputable def F_11030_12 (tab : px_T) (σ : px_M) (x0 : Nat) (x1 : Int32) (x2 : Int32) (x3 : Int32) (x4 : Int32) (x5 : Int32) : Option ((Int32 × Int32 × Int32 × Int32) ⊕ (Int32)) := if (nI 22) < x5 then (some (.inr ((-1)))) else (gd (¬ (nI 2) = nI 0) (bn ((x5 - x5 / (nI 2) * (nI 2)) = (nI 1)) (gd (px_obj (px_lay tab x0) 11) ((f_11016 tab σ x0 x4).bind fun r1 => if (nI 0) = nI 0 then (f_11030_55 tab σ x0 x1 x2 x3 ((r1 &&& (x2 ^^^ (-1)))) x5 ((nI 0))) else (f_11030_55 tab σ x0 x1 x2 x3 ((r1 &&& (x3 ^^^ (-1)))) x5 ((nI 0))))) (gd (px_obj (px_lay tab x0) 11) ((f_11016 tab σ x0 x4).bind fun r2 => if (nI 1) = nI 0 then (f_11030_55 tab σ x0 x1 x2 x3 ((r2 &&& (x2 ^^^ (-1)))) x5 ((nI 1))) else (f_11030_55 tab σ x0 x1 x2 x3 ((r2 &&& (x3 ^^^ (-1)))) x5 ((nI 1)))))))
noncomputable def f_11030_12 (tab : px_T) (σ : px_M) (x0 : Nat) (x1 : Int32) (x2 : Int32) (x3 : Int32) (x4 : Int32) (x5 : Int32) : Option (Int32) := lpO (fun s : Int32 × Int32 × Int32 × Int32 => F_11030_12 tab σ x0 x1 s.1 s.2.1 s.2.2.1 s.2.2.2) (x2, x3, x4, x5)
theorem f_11030_12_eq (tab : px_T) (σ : px_M) (x0 : Nat) (x1 : Int32) (x2 : Int32) (x3 : Int32) (x4 : Int32) (x5 : Int32) : f_11030_12 tab σ x0 x1 x2 x3 x4 x5 = (F_11030_12 tab σ x0 x1 x2 x3 x4 x5).bind (Sum.elim (fun s => f_11030_12 tab σ x0 x1 s.1 s.2.1 s.2.2.1 s.2.2.2) some) := lpO_eq _ _
noncomputable def f_11030 (tab : px_T) (σ : px_M) (x0 : Nat) (x1 : Int32) : Option (Int32) := f_11030_12 tab σ x0 x1 (((nI 1) <<< (x1 &&& 31))) ((nI 0)) (((nI 1) <<< (x1 &&& 31))) ((nI 1))
def Sg_11030 (g : px_M → Nat → Int32 → Option (Int32)) : px_S := fun av σ k => px_r1 av (fun x0 av => px_i1 av (fun x1 av => av = [] ∧ oW (g σ x0 x1) (fun r => k (some (.inl r)) σ)))
def kp_11030_55 (Q : Nat → Int32 → Int32 → Int32 → Int32 → Int32 → Int32 → px_M → Prop) : px_P := fun ls st τ => st = [] ∧ kN ls (fun x0 ls => kI ls (fun x1 ls => kI ls (fun x2 ls => kI ls (fun x3 ls => kI ls (fun x4 ls => kI ls (fun x5 ls => kI ls (fun x6 ls => kE ls (Q x0 x1 x2 x3 x4 x5 x6 τ))))))))
theorem kq_11030_55 {C : px_C} {k : Option px_V → px_M → Prop} {Q : Nat → Int32 → Int32 → Int32 → Int32 → Int32 → Int32 → px_M → Prop} (H : ∀ (x0 : Nat) (x1 : Int32) (x2 : Int32) (x3 : Int32) (x4 : Int32) (x5 : Int32) (x6 : Int32) (τ : px_M), Q x0 x1 x2 x3 x4 x5 x6 τ → px_W C k 55 [some (.inr (.inr (some x0))), some (.inl x1), some (.inl x2), some (.inl x3), some (.inl x4), some (.inl x5), some (.inl x6)] [] τ) : ∀ ls st τ, kp_11030_55 Q ls st τ → px_W C k 55 ls st τ := by
  intro ls st τ hz
  obtain ⟨ez, h0⟩ := hz
  obtain ⟨x0, l0, e0, h1⟩ := kN_sp h0
  obtain ⟨x1, l1, e1, h2⟩ := kI_sp h1
  obtain ⟨x2, l2, e2, h3⟩ := kI_sp h2
  obtain ⟨x3, l3, e3, h4⟩ := kI_sp h3
  obtain ⟨x4, l4, e4, h5⟩ := kI_sp h4
  obtain ⟨x5, l5, e5, h6⟩ := kI_sp h5
  obtain ⟨x6, l6, e6, h7⟩ := kI_sp h6
  obtain ⟨ey, hy⟩ := kE_sp h7
  subst ez
  subst ey
  subst e6
  subst e5
  subst e4
  subst e3
  subst e2
  subst e1
  subst e0
  exact H x0 x1 x2 x3 x4 x5 x6 τ hy
def kp_11030_12 (Q : Nat → Int32 → Int32 → Int32 → Int32 → Int32 → px_M → Prop) : px_P := fun ls st τ => st = [] ∧ kN ls (fun x0 ls => kI ls (fun x1 ls => kI ls (fun x2 ls => kI ls (fun x3 ls => kI ls (fun x4 ls => kI ls (fun x5 ls => kZ ls (fun ls => kE ls (Q x0 x1 x2 x3 x4 x5 τ))))))))
theorem kq_11030_12 {C : px_C} {k : Option px_V → px_M → Prop} {Q : Nat → Int32 → Int32 → Int32 → Int32 → Int32 → px_M → Prop} (H : ∀ (x0 : Nat) (x1 : Int32) (x2 : Int32) (x3 : Int32) (x4 : Int32) (x5 : Int32) (τ : px_M), Q x0 x1 x2 x3 x4 x5 τ → ∀ (z6 : Option px_V), px_W C k 12 [some (.inr (.inr (some x0))), some (.inl x1), some (.inl x2), some (.inl x3), some (.inl x4), some (.inl x5), z6] [] τ) : ∀ ls st τ, kp_11030_12 Q ls st τ → px_W C k 12 ls st τ := by
  intro ls st τ hz
  obtain ⟨ez, h0⟩ := hz
  obtain ⟨x0, l0, e0, h1⟩ := kN_sp h0
  obtain ⟨x1, l1, e1, h2⟩ := kI_sp h1
  obtain ⟨x2, l2, e2, h3⟩ := kI_sp h2
  obtain ⟨x3, l3, e3, h4⟩ := kI_sp h3
  obtain ⟨x4, l4, e4, h5⟩ := kI_sp h4
  obtain ⟨x5, l5, e5, h6⟩ := kI_sp h5
  obtain ⟨z6, l6, e6, h7⟩ := kZ_sp h6
  obtain ⟨ey, hy⟩ := kE_sp h7
  subst ez
  subst ey
  subst e6
  subst e5
  subst e4
  subst e3
  subst e2
  subst e1
  subst e0
  exact H x0 x1 x2 x3 x4 x5 τ hy z6
set_option maxHeartbeats 4000000 in
set_option maxRecDepth 100000 in
theorem rl_11030_55 {C : px_C} (hn : ((px_tb C).map Prod.fst).Nodup) {h : Nat} (hh : 2 ≤ h) (hC : px_ok C pn_i11030 h) {k : Option px_V → px_M → Prop} {x0 : Nat} {x1 : Int32} {x2 : Int32} {x3 : Int32} {x4 : Int32} {x5 : Int32} {x6 : Int32} {σ : px_M} (hs : oW (f_11030_55 (px_tb C) σ x0 x1 x2 x3 x4 x5 x6) (Sum.elim (fun s : Int32 × Int32 × Int32 × Int32 => ∀ (z6 : Option px_V), px_W C k 12 [some (.inr (.inr (some x0))), some (.inl x1), some (.inl s.1), some (.inl s.2.1), some (.inl s.2.2.1), some (.inl s.2.2.2), z6] [] σ) (fun r => k (some (.inl r)) σ))) : px_W C k 55 [some (.inr (.inr (some x0))), some (.inl x1), some (.inl x2), some (.inl x3), some (.inl x4), some (.inl x5), some (.inl x6)] [] σ := by
  refine px_runG (h - 1) ck_11030 [] [(12, kp_11030_12 (fun y0 y1 y2 y3 y4 y5 τ => y0 = x0 ∧ y1 = x1 ∧ τ = σ ∧ (fun s : Int32 × Int32 × Int32 × Int32 => ∀ (z6 : Option px_V), px_W C k 12 [some (.inr (.inr (some x0))), some (.inl x1), some (.inl s.1), some (.inl s.2.1), some (.inl s.2.2.1), some (.inl s.2.2.2), z6] [] σ) (y2, y3, y4, y5)))] 80 hC px_nosp (by omega) (px_cut1 (kq_11030_12 (fun y0 y1 y2 y3 y4 y5 τ hq => by obtain ⟨rfl, rfl, rfl, hq⟩ := hq; exact hq)) px_nocut) (fun G Jf hG hJf => ?_)
  simp only [f_11030_55, oW_some, oW_none, oW_bind, oW_map, oW_ite, oW_bn, oW_gd, oW_oA, Sum.elim_inl, Sum.elim_inr, oW_and, true_and, and_true, false_and, and_false, true_or, or_true, false_or, or_false, and_self, or_self, not_false_eq_true, not_true_eq_false, false_implies, forall_const, true_implies, eq_self, ↓reduceIte] at hs
  simp only [↓hG, ↓hJf, ↓px_vc, ↓px_ex, ↓px_jp, ↓px_gi, ↓px_gl, ↓px_gr, ↓px_s1, ↓px_s2, ↓px_nl, ↓px_i1, ↓px_l1, ↓px_r1_o, ↓px_q1, ↓px_i2, ↓px_l2, ↓px_il, ↓px_d0, ↓px_d1, ↓px_d2, ↓px_pop, px_sz, ↓px_sp, ↓px_rd, ↓px_pt, ↓px_rok, ↓px_rv_o, ↓px_fill, ↓px_sl, ↓px_sw, ↓pn_SW, lc_lt, lc_ge, lc_gt, lc_le, lc_eq, ↓reduceIte, Nat.reduceEqDiff, Nat.reduceLeDiff, Nat.reduceAdd, Nat.reduceSub, reduceCtorEq, List.length_cons, List.length_nil, Option.toList_some, Option.toList_none, List.cons_append, List.nil_append, true_and, and_true, false_and, and_false, true_or, or_true, false_or, or_false, and_self, or_self, not_false_eq_true, not_true_eq_false, false_implies, forall_const, true_implies, eq_self, ↓kI_s, ↓kJ_s, ↓kN_s, ↓kO_s, ↓kZ_s, ↓kE_s, oW_and, ↓bk_11030, ↓pn_i11030, oW_some, oW_none, oW_bind, oW_map, oW_ite, oW_bn, oW_gd, oW_oA, Sum.elim_inl, Sum.elim_inr, ↓kp_11030_12]
  exact hs
set_option maxHeartbeats 4000000 in
set_option maxRecDepth 100000 in
theorem rl_11030_12 {C : px_C} (hn : ((px_tb C).map Prod.fst).Nodup) {h : Nat} (hh : 2 ≤ h) (hC : px_ok C pn_i11030 h) {k : Option px_V → px_M → Prop} {x0 : Nat} {x1 : Int32} {σ : px_M} : ∀ s : Int32 × Int32 × Int32 × Int32, oW (f_11030_12 (px_tb C) σ x0 x1 s.1 s.2.1 s.2.2.1 s.2.2.2) (fun r => k (some (.inl r)) σ) → (fun s : Int32 × Int32 × Int32 × Int32 => ∀ (z6 : Option px_V), px_W C k 12 [some (.inr (.inr (some x0))), some (.inl x1), some (.inl s.1), some (.inl s.2.1), some (.inl s.2.2.1), some (.inl s.2.2.2), z6] [] σ) s := by
  intro s h0
  refine lpO_sound (P := (fun s : Int32 × Int32 × Int32 × Int32 => ∀ (z6 : Option px_V), px_W C k 12 [some (.inr (.inr (some x0))), some (.inl x1), some (.inl s.1), some (.inl s.2.1), some (.inl s.2.2.1), some (.inl s.2.2.2), z6] [] σ)) (fun s hs => ?_) h0
  obtain ⟨x2, x3, x4, x5⟩ := s
  intro z6
  refine px_runG (h - 1) ck_11030 [(11016, Sg_11016 (f_11016 (px_tb C)))] [(55, kp_11030_55 (fun y0 y1 y2 y3 y4 y5 y6 τ => y0 = x0 ∧ y1 = x1 ∧ τ = σ ∧ oW (f_11030_55 (px_tb C) τ y0 y1 y2 y3 y4 y5 y6) (Sum.elim (fun s : Int32 × Int32 × Int32 × Int32 => ∀ (z6 : Option px_V), px_W C k 12 [some (.inr (.inr (some x0))), some (.inl x1), some (.inl s.1), some (.inl s.2.1), some (.inl s.2.2.1), some (.inl s.2.2.2), z6] [] σ) (fun r => k (some (.inl r)) σ))))] 80 hC (px_sp1 (mf_11016 hn (by omega)) px_nosp) (by omega) (px_cut1 (kq_11030_55 (fun y0 y1 y2 y3 y4 y5 y6 τ hq => by obtain ⟨rfl, rfl, rfl, hq⟩ := hq; exact rl_11030_55 hn (by omega) hC  hq)) px_nocut) (fun G Jf hG hJf => ?_)
  simp only [F_11030_12, oW_some, oW_none, oW_bind, oW_map, oW_ite, oW_bn, oW_gd, oW_oA, Sum.elim_inl, Sum.elim_inr, oW_and, true_and, and_true, false_and, and_false, true_or, or_true, false_or, or_false, and_self, or_self, not_false_eq_true, not_true_eq_false, false_implies, forall_const, true_implies, eq_self, ↓reduceIte] at hs
  simp only [↓hG, ↓hJf, ↓px_vc, ↓px_ex, ↓px_jp, ↓px_gi, ↓px_gl, ↓px_gr, ↓px_s1, ↓px_s2, ↓px_nl, ↓px_i1, ↓px_l1, ↓px_r1_o, ↓px_q1, ↓px_i2, ↓px_l2, ↓px_il, ↓px_d0, ↓px_d1, ↓px_d2, ↓px_pop, px_sz, ↓px_sp, ↓px_rd, ↓px_pt, ↓px_rok, ↓px_rv_o, ↓px_fill, ↓px_sl, ↓px_sw, ↓pn_SW, lc_lt, lc_ge, lc_gt, lc_le, lc_eq, ↓reduceIte, Nat.reduceEqDiff, Nat.reduceLeDiff, Nat.reduceAdd, Nat.reduceSub, reduceCtorEq, List.length_cons, List.length_nil, Option.toList_some, Option.toList_none, List.cons_append, List.nil_append, true_and, and_true, false_and, and_false, true_or, or_true, false_or, or_false, and_self, or_self, not_false_eq_true, not_true_eq_false, false_implies, forall_const, true_implies, eq_self, ↓kI_s, ↓kJ_s, ↓kN_s, ↓kO_s, ↓kZ_s, ↓kE_s, oW_and, ↓bk_11030, ↓pn_i11030, oW_some, oW_none, oW_bind, oW_map, oW_ite, oW_bn, oW_gd, oW_oA, Sum.elim_inl, Sum.elim_inr, ↓Sg_11016, ↓kp_11030_55]
  exact hs
set_option maxHeartbeats 4000000 in
set_option maxRecDepth 100000 in
theorem mf_11030 {tab : px_T} (hn : (tab.map Prod.fst).Nodup) {h : Nat} (hh : 2 ≤ h) : px_Ok tab pn_i11030 h (Sg_11030 (f_11030 tab)) := by
  refine px_mth hn (by decide +kernel) (fun av σ k hS => ?_) (fun C hT hC av σ k hS => ?_)
  · obtain ⟨x0, av0, e0, h0⟩ := px_r1_spec hS
    obtain ⟨x1, av1, e1, h1⟩ := px_i1_spec h0
    obtain ⟨ez, hz⟩ := h1
    subst ez
    subst e1
    subst e0
    exact Nat.le_of_ble_eq_true rfl
  · obtain ⟨x0, av0, e0, h0⟩ := px_r1_spec hS
    obtain ⟨x1, av1, e1, h1⟩ := px_i1_spec h0
    obtain ⟨ez, hz⟩ := h1
    subst ez
    subst e1
    subst e0
    subst hT
    refine px_runG (h - 1) ck_11030 [] [(12, kp_11030_12 (fun y0 y1 y2 y3 y4 y5 τ => τ = σ ∧ oW (f_11030_12 (px_tb C) τ y0 y1 y2 y3 y4 y5) (fun r => k (some (.inl r)) σ)))] 80 hC px_nosp (by omega) (px_cut1 (kq_11030_12 (fun y0 y1 y2 y3 y4 y5 τ hq => by obtain ⟨rfl, hq⟩ := hq; exact rl_11030_12 hn (by omega) hC (y2, y3, y4, y5) hq)) px_nocut) (fun G Jf hG hJf => ?_)
    simp only [f_11030, oW_some, oW_none, oW_bind, oW_map, oW_ite, oW_bn, oW_gd, oW_oA, Sum.elim_inl, Sum.elim_inr, oW_and, true_and, and_true, false_and, and_false, true_or, or_true, false_or, or_false, and_self, or_self, not_false_eq_true, not_true_eq_false, false_implies, forall_const, true_implies, eq_self, ↓reduceIte] at hz
    simp only [↓hG, ↓hJf, ↓px_vc, ↓px_ex, ↓px_jp, ↓px_gi, ↓px_gl, ↓px_gr, ↓px_s1, ↓px_s2, ↓px_nl, ↓px_i1, ↓px_l1, ↓px_r1_o, ↓px_q1, ↓px_i2, ↓px_l2, ↓px_il, ↓px_d0, ↓px_d1, ↓px_d2, ↓px_pop, px_sz, ↓px_sp, ↓px_rd, ↓px_pt, ↓px_rok, ↓px_rv_o, ↓px_fill, ↓px_sl, ↓px_sw, ↓pn_SW, lc_lt, lc_ge, lc_gt, lc_le, lc_eq, ↓reduceIte, Nat.reduceEqDiff, Nat.reduceLeDiff, Nat.reduceAdd, Nat.reduceSub, reduceCtorEq, List.length_cons, List.length_nil, Option.toList_some, Option.toList_none, List.cons_append, List.nil_append, true_and, and_true, false_and, and_false, true_or, or_true, false_or, or_false, and_self, or_self, not_false_eq_true, not_true_eq_false, false_implies, forall_const, true_implies, eq_self, ↓kI_s, ↓kJ_s, ↓kN_s, ↓kO_s, ↓kZ_s, ↓kE_s, oW_and, ↓bk_11030, ↓pn_i11030, oW_some, oW_none, oW_bind, oW_map, oW_ite, oW_bn, oW_gd, oW_oA, Sum.elim_inl, Sum.elim_inr, ↓kp_11030_12]
    exact hz
/-- NoThree$Town.leastOddRing()I -/
noncomputable def F_11029_4 (tab : px_T) (σ : px_M) (x0 : Nat) (x1 : Int32) (x2 : Int32) : Option ((Int32 × Int32) ⊕ (Int32)) := gd (px_obj (px_lay tab x0) 11) (if ((σ).1 x0 0) ≤ x2 then (some (.inr (x1))) else (gd (px_obj (px_lay tab x0) 11) ((f_11030 tab σ x0 x2).bind fun r1 => if r1 = (-1) then (some (.inl ((x1, (x2 + (nI 1)))))) else (if x1 = (-1) then (some (.inl ((r1, (x2 + (nI 1)))))) else (if x1 ≤ r1 then (some (.inl ((x1, (x2 + (nI 1)))))) else (some (.inl ((r1, (x2 + (nI 1)))))))))))
noncomputable def f_11029_4 (tab : px_T) (σ : px_M) (x0 : Nat) (x1 : Int32) (x2 : Int32) : Option (Int32) := lpO (fun s : Int32 × Int32 => F_11029_4 tab σ x0 s.1 s.2) (x1, x2)
theorem f_11029_4_eq (tab : px_T) (σ : px_M) (x0 : Nat) (x1 : Int32) (x2 : Int32) : f_11029_4 tab σ x0 x1 x2 = (F_11029_4 tab σ x0 x1 x2).bind (Sum.elim (fun s => f_11029_4 tab σ x0 s.1 s.2) some) := lpO_eq _ _
noncomputable def f_11029 (tab : px_T) (σ : px_M) (x0 : Nat) : Option (Int32) := f_11029_4 tab σ x0 ((-1)) ((nI 0))
def Sg_11029 (g : px_M → Nat → Option (Int32)) : px_S := fun av σ k => px_r1 av (fun x0 av => av = [] ∧ oW (g σ x0) (fun r => k (some (.inl r)) σ))
def kp_11029_4 (Q : Nat → Int32 → Int32 → px_M → Prop) : px_P := fun ls st τ => st = [] ∧ kN ls (fun x0 ls => kI ls (fun x1 ls => kI ls (fun x2 ls => kZ ls (fun ls => kE ls (Q x0 x1 x2 τ)))))
theorem kq_11029_4 {C : px_C} {k : Option px_V → px_M → Prop} {Q : Nat → Int32 → Int32 → px_M → Prop} (H : ∀ (x0 : Nat) (x1 : Int32) (x2 : Int32) (τ : px_M), Q x0 x1 x2 τ → ∀ (z3 : Option px_V), px_W C k 4 [some (.inr (.inr (some x0))), some (.inl x1), some (.inl x2), z3] [] τ) : ∀ ls st τ, kp_11029_4 Q ls st τ → px_W C k 4 ls st τ := by
  intro ls st τ hz
  obtain ⟨ez, h0⟩ := hz
  obtain ⟨x0, l0, e0, h1⟩ := kN_sp h0
  obtain ⟨x1, l1, e1, h2⟩ := kI_sp h1
  obtain ⟨x2, l2, e2, h3⟩ := kI_sp h2
  obtain ⟨z3, l3, e3, h4⟩ := kZ_sp h3
  obtain ⟨ey, hy⟩ := kE_sp h4
  subst ez
  subst ey
  subst e3
  subst e2
  subst e1
  subst e0
  exact H x0 x1 x2 τ hy z3
set_option maxHeartbeats 4000000 in
set_option maxRecDepth 100000 in
theorem rl_11029_4 {C : px_C} (hn : ((px_tb C).map Prod.fst).Nodup) {h : Nat} (hh : 3 ≤ h) (hC : px_ok C pn_i11029 h) {k : Option px_V → px_M → Prop} {x0 : Nat} {σ : px_M} : ∀ s : Int32 × Int32, oW (f_11029_4 (px_tb C) σ x0 s.1 s.2) (fun r => k (some (.inl r)) σ) → (fun s : Int32 × Int32 => ∀ (z3 : Option px_V), px_W C k 4 [some (.inr (.inr (some x0))), some (.inl s.1), some (.inl s.2), z3] [] σ) s := by
  intro s h0
  refine lpO_sound (P := (fun s : Int32 × Int32 => ∀ (z3 : Option px_V), px_W C k 4 [some (.inr (.inr (some x0))), some (.inl s.1), some (.inl s.2), z3] [] σ)) (fun s hs => ?_) h0
  obtain ⟨x1, x2⟩ := s
  intro z3
  refine px_runG (h - 1) ck_11029 [(11030, Sg_11030 (f_11030 (px_tb C)))] [(4, kp_11029_4 (fun y0 y1 y2 τ => y0 = x0 ∧ τ = σ ∧ (fun s : Int32 × Int32 => ∀ (z3 : Option px_V), px_W C k 4 [some (.inr (.inr (some x0))), some (.inl s.1), some (.inl s.2), z3] [] σ) (y1, y2)))] 80 hC (px_sp1 (mf_11030 hn (by omega)) px_nosp) (by omega) (px_cut1 (kq_11029_4 (fun y0 y1 y2 τ hq => by obtain ⟨rfl, rfl, hq⟩ := hq; exact hq)) px_nocut) (fun G Jf hG hJf => ?_)
  simp only [F_11029_4, oW_some, oW_none, oW_bind, oW_map, oW_ite, oW_bn, oW_gd, oW_oA, Sum.elim_inl, Sum.elim_inr, oW_and, true_and, and_true, false_and, and_false, true_or, or_true, false_or, or_false, and_self, or_self, not_false_eq_true, not_true_eq_false, false_implies, forall_const, true_implies, eq_self, ↓reduceIte] at hs
  simp only [↓hG, ↓hJf, ↓px_vc, ↓px_ex, ↓px_jp, ↓px_gi, ↓px_gl, ↓px_gr, ↓px_s1, ↓px_s2, ↓px_nl, ↓px_i1, ↓px_l1, ↓px_r1_o, ↓px_q1, ↓px_i2, ↓px_l2, ↓px_il, ↓px_d0, ↓px_d1, ↓px_d2, ↓px_pop, px_sz, ↓px_sp, ↓px_rd, ↓px_pt, ↓px_rok, ↓px_rv_o, ↓px_fill, ↓px_sl, ↓px_sw, ↓pn_SW, lc_lt, lc_ge, lc_gt, lc_le, lc_eq, ↓reduceIte, Nat.reduceEqDiff, Nat.reduceLeDiff, Nat.reduceAdd, Nat.reduceSub, reduceCtorEq, List.length_cons, List.length_nil, Option.toList_some, Option.toList_none, List.cons_append, List.nil_append, true_and, and_true, false_and, and_false, true_or, or_true, false_or, or_false, and_self, or_self, not_false_eq_true, not_true_eq_false, false_implies, forall_const, true_implies, eq_self, ↓kI_s, ↓kJ_s, ↓kN_s, ↓kO_s, ↓kZ_s, ↓kE_s, oW_and, ↓bk_11029, ↓pn_i11029, oW_some, oW_none, oW_bind, oW_map, oW_ite, oW_bn, oW_gd, oW_oA, Sum.elim_inl, Sum.elim_inr, ↓Sg_11030, ↓kp_11029_4]
  exact hs
set_option maxHeartbeats 4000000 in
set_option maxRecDepth 100000 in
theorem mf_11029 {tab : px_T} (hn : (tab.map Prod.fst).Nodup) {h : Nat} (hh : 3 ≤ h) : px_Ok tab pn_i11029 h (Sg_11029 (f_11029 tab)) := by
  refine px_mth hn (by decide +kernel) (fun av σ k hS => ?_) (fun C hT hC av σ k hS => ?_)
  · obtain ⟨x0, av0, e0, h0⟩ := px_r1_spec hS
    obtain ⟨ez, hz⟩ := h0
    subst ez
    subst e0
    exact Nat.le_of_ble_eq_true rfl
  · obtain ⟨x0, av0, e0, h0⟩ := px_r1_spec hS
    obtain ⟨ez, hz⟩ := h0
    subst ez
    subst e0
    subst hT
    refine px_runG (h - 1) ck_11029 [] [(4, kp_11029_4 (fun y0 y1 y2 τ => τ = σ ∧ oW (f_11029_4 (px_tb C) τ y0 y1 y2) (fun r => k (some (.inl r)) σ)))] 80 hC px_nosp (by omega) (px_cut1 (kq_11029_4 (fun y0 y1 y2 τ hq => by obtain ⟨rfl, hq⟩ := hq; exact rl_11029_4 hn (by omega) hC (y1, y2) hq)) px_nocut) (fun G Jf hG hJf => ?_)
    simp only [f_11029, oW_some, oW_none, oW_bind, oW_map, oW_ite, oW_bn, oW_gd, oW_oA, Sum.elim_inl, Sum.elim_inr, oW_and, true_and, and_true, false_and, and_false, true_or, or_true, false_or, or_false, and_self, or_self, not_false_eq_true, not_true_eq_false, false_implies, forall_const, true_implies, eq_self, ↓reduceIte] at hz
    simp only [↓hG, ↓hJf, ↓px_vc, ↓px_ex, ↓px_jp, ↓px_gi, ↓px_gl, ↓px_gr, ↓px_s1, ↓px_s2, ↓px_nl, ↓px_i1, ↓px_l1, ↓px_r1_o, ↓px_q1, ↓px_i2, ↓px_l2, ↓px_il, ↓px_d0, ↓px_d1, ↓px_d2, ↓px_pop, px_sz, ↓px_sp, ↓px_rd, ↓px_pt, ↓px_rok, ↓px_rv_o, ↓px_fill, ↓px_sl, ↓px_sw, ↓pn_SW, lc_lt, lc_ge, lc_gt, lc_le, lc_eq, ↓reduceIte, Nat.reduceEqDiff, Nat.reduceLeDiff, Nat.reduceAdd, Nat.reduceSub, reduceCtorEq, List.length_cons, List.length_nil, Option.toList_some, Option.toList_none, List.cons_append, List.nil_append, true_and, and_true, false_and, and_false, true_or, or_true, false_or, or_false, and_self, or_self, not_false_eq_true, not_true_eq_false, false_implies, forall_const, true_implies, eq_self, ↓kI_s, ↓kJ_s, ↓kN_s, ↓kO_s, ↓kZ_s, ↓kE_s, oW_and, ↓bk_11029, ↓pn_i11029, oW_some, oW_none, oW_bind, oW_map, oW_ite, oW_bn, oW_gd, oW_oA, Sum.elim_inl, Sum.elim_inr, ↓kp_11029_4]
    exact hz
/-- NoThree$Town.strangeThrees()I -/
noncomputable def F_11032_16 (tab : px_T) (σ : px_M) (x0 : Nat) (x2 : Int32) (x1 : Int32) (x3 : Int32) : Option ((Int32 × Int32) ⊕ ((Int32 × Int32) ⊕ (Int32))) := gd (px_obj (px_lay tab x0) 11) (if ((σ).1 x0 0) ≤ x3 then (some (.inr (.inl ((x1, (x2 + (nI 1))))))) else (gd (px_obj (px_lay tab x0) 11) ((f_11006 tab σ x0 x2 x3).bind fun r1 => bn (r1 = nI 0) (some (.inl ((x1, (x3 + (nI 1)))))) (gd (px_obj (px_lay tab x0) 11) ((f_11004 tab σ x0).bind fun r2 => gd (px_obj (px_lay tab x0) 11) ((((σ).2.2 x0 1)).bind fun n3 => oA (px_lay tab n3) fun t4 l5 => gd (t4 = 0) (gd (vp_in x2 l5) (gd (px_obj (px_lay tab x0) 11) ((((σ).2.2 x0 1)).bind fun n6 => oA (px_lay tab n6) fun t7 l8 => gd (t7 = 0) (gd (vp_in x3 l8) ((f_21000 tab σ ((((r2 &&& (((σ).1 n3 (x2).toNatClampNeg) ^^^ (-1))) &&& (((σ).1 n6 (x3).toNatClampNeg) ^^^ (-1))) &&& ((-2) <<< (x3 &&& 31))))).bind fun r9 => some (.inl (((x1 + r9), (x3 + (nI 1))))))))))))))))
noncomputable def f_11032_16 (tab : px_T) (σ : px_M) (x0 : Nat) (x2 : Int32) (x1 : Int32) (x3 : Int32) : Option ((Int32 × Int32) ⊕ (Int32)) := lpO (fun s : Int32 × Int32 => F_11032_16 tab σ x0 x2 s.1 s.2) (x1, x3)
theorem f_11032_16_eq (tab : px_T) (σ : px_M) (x0 : Nat) (x2 : Int32) (x1 : Int32) (x3 : Int32) : f_11032_16 tab σ x0 x2 x1 x3 = (F_11032_16 tab σ x0 x2 x1 x3).bind (Sum.elim (fun s => f_11032_16 tab σ x0 x2 s.1 s.2) some) := lpO_eq _ _
noncomputable def F_11032_4 (tab : px_T) (σ : px_M) (x0 : Nat) (x1 : Int32) (x2 : Int32) : Option ((Int32 × Int32) ⊕ (Int32)) := gd (px_obj (px_lay tab x0) 11) (if ((σ).1 x0 0) ≤ x2 then (some (.inr (x1))) else (f_11032_16 tab σ x0 x2 x1 ((x2 + (nI 1)))))
noncomputable def f_11032_4 (tab : px_T) (σ : px_M) (x0 : Nat) (x1 : Int32) (x2 : Int32) : Option (Int32) := lpO (fun s : Int32 × Int32 => F_11032_4 tab σ x0 s.1 s.2) (x1, x2)
theorem f_11032_4_eq (tab : px_T) (σ : px_M) (x0 : Nat) (x1 : Int32) (x2 : Int32) : f_11032_4 tab σ x0 x1 x2 = (F_11032_4 tab σ x0 x1 x2).bind (Sum.elim (fun s => f_11032_4 tab σ x0 s.1 s.2) some) := lpO_eq _ _
noncomputable def f_11032 (tab : px_T) (σ : px_M) (x0 : Nat) : Option (Int32) := f_11032_4 tab σ x0 ((nI 0)) ((nI 0))
def Sg_11032 (g : px_M → Nat → Option (Int32)) : px_S := fun av σ k => px_r1 av (fun x0 av => av = [] ∧ oW (g σ x0) (fun r => k (some (.inl r)) σ))
def kp_11032_16 (Q : Nat → Int32 → Int32 → Int32 → px_M → Prop) : px_P := fun ls st τ => st = [] ∧ kN ls (fun x0 ls => kI ls (fun x1 ls => kI ls (fun x2 ls => kI ls (fun x3 ls => kE ls (Q x0 x1 x2 x3 τ)))))
theorem kq_11032_16 {C : px_C} {k : Option px_V → px_M → Prop} {Q : Nat → Int32 → Int32 → Int32 → px_M → Prop} (H : ∀ (x0 : Nat) (x1 : Int32) (x2 : Int32) (x3 : Int32) (τ : px_M), Q x0 x1 x2 x3 τ → px_W C k 16 [some (.inr (.inr (some x0))), some (.inl x1), some (.inl x2), some (.inl x3)] [] τ) : ∀ ls st τ, kp_11032_16 Q ls st τ → px_W C k 16 ls st τ := by
  intro ls st τ hz
  obtain ⟨ez, h0⟩ := hz
  obtain ⟨x0, l0, e0, h1⟩ := kN_sp h0
  obtain ⟨x1, l1, e1, h2⟩ := kI_sp h1
  obtain ⟨x2, l2, e2, h3⟩ := kI_sp h2
  obtain ⟨x3, l3, e3, h4⟩ := kI_sp h3
  obtain ⟨ey, hy⟩ := kE_sp h4
  subst ez
  subst ey
  subst e3
  subst e2
  subst e1
  subst e0
  exact H x0 x1 x2 x3 τ hy
def kp_11032_4 (Q : Nat → Int32 → Int32 → px_M → Prop) : px_P := fun ls st τ => st = [] ∧ kN ls (fun x0 ls => kI ls (fun x1 ls => kI ls (fun x2 ls => kZ ls (fun ls => kE ls (Q x0 x1 x2 τ)))))
theorem kq_11032_4 {C : px_C} {k : Option px_V → px_M → Prop} {Q : Nat → Int32 → Int32 → px_M → Prop} (H : ∀ (x0 : Nat) (x1 : Int32) (x2 : Int32) (τ : px_M), Q x0 x1 x2 τ → ∀ (z3 : Option px_V), px_W C k 4 [some (.inr (.inr (some x0))), some (.inl x1), some (.inl x2), z3] [] τ) : ∀ ls st τ, kp_11032_4 Q ls st τ → px_W C k 4 ls st τ := by
  intro ls st τ hz
  obtain ⟨ez, h0⟩ := hz
  obtain ⟨x0, l0, e0, h1⟩ := kN_sp h0
  obtain ⟨x1, l1, e1, h2⟩ := kI_sp h1
  obtain ⟨x2, l2, e2, h3⟩ := kI_sp h2
  obtain ⟨z3, l3, e3, h4⟩ := kZ_sp h3
  obtain ⟨ey, hy⟩ := kE_sp h4
  subst ez
  subst ey
  subst e3
  subst e2
  subst e1
  subst e0
  exact H x0 x1 x2 τ hy z3
set_option maxHeartbeats 4000000 in
set_option maxRecDepth 100000 in
theorem rl_11032_16 {C : px_C} (hn : ((px_tb C).map Prod.fst).Nodup) {h : Nat} (hh : 3 ≤ h) (hC : px_ok C pn_i11032 h) {k : Option px_V → px_M → Prop} {x0 : Nat} {x2 : Int32} {σ : px_M} : ∀ s : Int32 × Int32, oW (f_11032_16 (px_tb C) σ x0 x2 s.1 s.2) (Sum.elim (fun s : Int32 × Int32 => ∀ (z3 : Option px_V), px_W C k 4 [some (.inr (.inr (some x0))), some (.inl s.1), some (.inl s.2), z3] [] σ) (fun r => k (some (.inl r)) σ)) → (fun s : Int32 × Int32 => px_W C k 16 [some (.inr (.inr (some x0))), some (.inl s.1), some (.inl x2), some (.inl s.2)] [] σ) s := by
  intro s h0
  refine lpO_sound (P := (fun s : Int32 × Int32 => px_W C k 16 [some (.inr (.inr (some x0))), some (.inl s.1), some (.inl x2), some (.inl s.2)] [] σ)) (fun s hs => ?_) h0
  obtain ⟨x1, x3⟩ := s
  refine px_runG (h - 1) ck_11032 [(11004, Sg_11004 (f_11004 (px_tb C))), (11006, Sg_11006 (f_11006 (px_tb C))), (21000, Sg_21000 (f_21000 (px_tb C)))] [(4, kp_11032_4 (fun y0 y1 y2 τ => y0 = x0 ∧ τ = σ ∧ (fun s : Int32 × Int32 => ∀ (z3 : Option px_V), px_W C k 4 [some (.inr (.inr (some x0))), some (.inl s.1), some (.inl s.2), z3] [] σ) (y1, y2))), (16, kp_11032_16 (fun y0 y1 y2 y3 τ => y0 = x0 ∧ y2 = x2 ∧ τ = σ ∧ (fun s : Int32 × Int32 => px_W C k 16 [some (.inr (.inr (some x0))), some (.inl s.1), some (.inl x2), some (.inl s.2)] [] σ) (y1, y3)))] 80 hC (px_sp1 (mf_11004 hn (by omega)) (px_sp1 (mf_11006 hn (by omega)) (px_sp1 (mf_21000 hn (by omega)) px_nosp))) (by omega) (px_cut1 (kq_11032_4 (fun y0 y1 y2 τ hq => by obtain ⟨rfl, rfl, hq⟩ := hq; exact hq)) (px_cut1 (kq_11032_16 (fun y0 y1 y2 y3 τ hq => by obtain ⟨rfl, rfl, rfl, hq⟩ := hq; exact hq)) px_nocut)) (fun G Jf hG hJf => ?_)
  simp only [F_11032_16, oW_some, oW_none, oW_bind, oW_map, oW_ite, oW_bn, oW_gd, oW_oA, Sum.elim_inl, Sum.elim_inr, oW_and, true_and, and_true, false_and, and_false, true_or, or_true, false_or, or_false, and_self, or_self, not_false_eq_true, not_true_eq_false, false_implies, forall_const, true_implies, eq_self, ↓reduceIte] at hs
  simp only [↓hG, ↓hJf, ↓px_vc, ↓px_ex, ↓px_jp, ↓px_gi, ↓px_gl, ↓px_gr, ↓px_s1, ↓px_s2, ↓px_nl, ↓px_i1, ↓px_l1, ↓px_r1_o, ↓px_q1, ↓px_i2, ↓px_l2, ↓px_il, ↓px_d0, ↓px_d1, ↓px_d2, ↓px_pop, px_sz, ↓px_sp, ↓px_rd, ↓px_pt, ↓px_rok, ↓px_rv_o, ↓px_fill, ↓px_sl, ↓px_sw, ↓pn_SW, lc_lt, lc_ge, lc_gt, lc_le, lc_eq, ↓reduceIte, Nat.reduceEqDiff, Nat.reduceLeDiff, Nat.reduceAdd, Nat.reduceSub, reduceCtorEq, List.length_cons, List.length_nil, Option.toList_some, Option.toList_none, List.cons_append, List.nil_append, true_and, and_true, false_and, and_false, true_or, or_true, false_or, or_false, and_self, or_self, not_false_eq_true, not_true_eq_false, false_implies, forall_const, true_implies, eq_self, ↓kI_s, ↓kJ_s, ↓kN_s, ↓kO_s, ↓kZ_s, ↓kE_s, oW_and, ↓bk_11032, ↓pn_i11032, oW_some, oW_none, oW_bind, oW_map, oW_ite, oW_bn, oW_gd, oW_oA, Sum.elim_inl, Sum.elim_inr, ↓Sg_11004, ↓Sg_11006, ↓Sg_21000, ↓kp_11032_4, ↓kp_11032_16]
  exact hs
set_option maxHeartbeats 4000000 in
set_option maxRecDepth 100000 in
theorem rl_11032_4 {C : px_C} (hn : ((px_tb C).map Prod.fst).Nodup) {h : Nat} (hh : 3 ≤ h) (hC : px_ok C pn_i11032 h) {k : Option px_V → px_M → Prop} {x0 : Nat} {σ : px_M} : ∀ s : Int32 × Int32, oW (f_11032_4 (px_tb C) σ x0 s.1 s.2) (fun r => k (some (.inl r)) σ) → (fun s : Int32 × Int32 => ∀ (z3 : Option px_V), px_W C k 4 [some (.inr (.inr (some x0))), some (.inl s.1), some (.inl s.2), z3] [] σ) s := by
  intro s h0
  refine lpO_sound (P := (fun s : Int32 × Int32 => ∀ (z3 : Option px_V), px_W C k 4 [some (.inr (.inr (some x0))), some (.inl s.1), some (.inl s.2), z3] [] σ)) (fun s hs => ?_) h0
  obtain ⟨x1, x2⟩ := s
  intro z3
  refine px_runG (h - 1) ck_11032 [] [(16, kp_11032_16 (fun y0 y1 y2 y3 τ => y0 = x0 ∧ τ = σ ∧ oW (f_11032_16 (px_tb C) τ y0 y2 y1 y3) (Sum.elim (fun s : Int32 × Int32 => ∀ (z3 : Option px_V), px_W C k 4 [some (.inr (.inr (some x0))), some (.inl s.1), some (.inl s.2), z3] [] σ) (fun r => k (some (.inl r)) σ))))] 80 hC px_nosp (by omega) (px_cut1 (kq_11032_16 (fun y0 y1 y2 y3 τ hq => by obtain ⟨rfl, rfl, hq⟩ := hq; exact rl_11032_16 hn (by omega) hC (y1, y3) hq)) px_nocut) (fun G Jf hG hJf => ?_)
  simp only [F_11032_4, oW_some, oW_none, oW_bind, oW_map, oW_ite, oW_bn, oW_gd, oW_oA, Sum.elim_inl, Sum.elim_inr, oW_and, true_and, and_true, false_and, and_false, true_or, or_true, false_or, or_false, and_self, or_self, not_false_eq_true, not_true_eq_false, false_implies, forall_const, true_implies, eq_self, ↓reduceIte] at hs
  simp only [↓hG, ↓hJf, ↓px_vc, ↓px_ex, ↓px_jp, ↓px_gi, ↓px_gl, ↓px_gr, ↓px_s1, ↓px_s2, ↓px_nl, ↓px_i1, ↓px_l1, ↓px_r1_o, ↓px_q1, ↓px_i2, ↓px_l2, ↓px_il, ↓px_d0, ↓px_d1, ↓px_d2, ↓px_pop, px_sz, ↓px_sp, ↓px_rd, ↓px_pt, ↓px_rok, ↓px_rv_o, ↓px_fill, ↓px_sl, ↓px_sw, ↓pn_SW, lc_lt, lc_ge, lc_gt, lc_le, lc_eq, ↓reduceIte, Nat.reduceEqDiff, Nat.reduceLeDiff, Nat.reduceAdd, Nat.reduceSub, reduceCtorEq, List.length_cons, List.length_nil, Option.toList_some, Option.toList_none, List.cons_append, List.nil_append, true_and, and_true, false_and, and_false, true_or, or_true, false_or, or_false, and_self, or_self, not_false_eq_true, not_true_eq_false, false_implies, forall_const, true_implies, eq_self, ↓kI_s, ↓kJ_s, ↓kN_s, ↓kO_s, ↓kZ_s, ↓kE_s, oW_and, ↓bk_11032, ↓pn_i11032, oW_some, oW_none, oW_bind, oW_map, oW_ite, oW_bn, oW_gd, oW_oA, Sum.elim_inl, Sum.elim_inr, ↓kp_11032_16]
  exact hs
set_option maxHeartbeats 4000000 in
set_option maxRecDepth 100000 in
theorem mf_11032 {tab : px_T} (hn : (tab.map Prod.fst).Nodup) {h : Nat} (hh : 3 ≤ h) : px_Ok tab pn_i11032 h (Sg_11032 (f_11032 tab)) := by
  refine px_mth hn (by decide +kernel) (fun av σ k hS => ?_) (fun C hT hC av σ k hS => ?_)
  · obtain ⟨x0, av0, e0, h0⟩ := px_r1_spec hS
    obtain ⟨ez, hz⟩ := h0
    subst ez
    subst e0
    exact Nat.le_of_ble_eq_true rfl
  · obtain ⟨x0, av0, e0, h0⟩ := px_r1_spec hS
    obtain ⟨ez, hz⟩ := h0
    subst ez
    subst e0
    subst hT
    refine px_runG (h - 1) ck_11032 [] [(4, kp_11032_4 (fun y0 y1 y2 τ => τ = σ ∧ oW (f_11032_4 (px_tb C) τ y0 y1 y2) (fun r => k (some (.inl r)) σ)))] 80 hC px_nosp (by omega) (px_cut1 (kq_11032_4 (fun y0 y1 y2 τ hq => by obtain ⟨rfl, hq⟩ := hq; exact rl_11032_4 hn (by omega) hC (y1, y2) hq)) px_nocut) (fun G Jf hG hJf => ?_)
    simp only [f_11032, oW_some, oW_none, oW_bind, oW_map, oW_ite, oW_bn, oW_gd, oW_oA, Sum.elim_inl, Sum.elim_inr, oW_and, true_and, and_true, false_and, and_false, true_or, or_true, false_or, or_false, and_self, or_self, not_false_eq_true, not_true_eq_false, false_implies, forall_const, true_implies, eq_self, ↓reduceIte] at hz
    simp only [↓hG, ↓hJf, ↓px_vc, ↓px_ex, ↓px_jp, ↓px_gi, ↓px_gl, ↓px_gr, ↓px_s1, ↓px_s2, ↓px_nl, ↓px_i1, ↓px_l1, ↓px_r1_o, ↓px_q1, ↓px_i2, ↓px_l2, ↓px_il, ↓px_d0, ↓px_d1, ↓px_d2, ↓px_pop, px_sz, ↓px_sp, ↓px_rd, ↓px_pt, ↓px_rok, ↓px_rv_o, ↓px_fill, ↓px_sl, ↓px_sw, ↓pn_SW, lc_lt, lc_ge, lc_gt, lc_le, lc_eq, ↓reduceIte, Nat.reduceEqDiff, Nat.reduceLeDiff, Nat.reduceAdd, Nat.reduceSub, reduceCtorEq, List.length_cons, List.length_nil, Option.toList_some, Option.toList_none, List.cons_append, List.nil_append, true_and, and_true, false_and, and_false, true_or, or_true, false_or, or_false, and_self, or_self, not_false_eq_true, not_true_eq_false, false_implies, forall_const, true_implies, eq_self, ↓kI_s, ↓kJ_s, ↓kN_s, ↓kO_s, ↓kZ_s, ↓kE_s, oW_and, ↓bk_11032, ↓pn_i11032, oW_some, oW_none, oW_bind, oW_map, oW_ite, oW_bn, oW_gd, oW_oA, Sum.elim_inl, Sum.elim_inr, ↓kp_11032_4]
    exact hz
/-- NoThree$Town.meetingsInSix(I)I -/
noncomputable def F_11034_4 (tab : px_T) (σ : px_M) (x0 : Nat) (x1 : Int32) (x2 : Int32) (x3 : Int32) : Option ((Int32 × Int32) ⊕ (Int32)) := gd (px_obj (px_lay tab x0) 11) (if ((σ).1 x0 0) ≤ x3 then (gd (¬ (nI 2) = nI 0) (some (.inr (((nI 20) - (x2 / (nI 2))))))) else (if (x1 &&& ((nI 1) <<< (x3 &&& 31))) = nI 0 then (some (.inl ((x2, (x3 + (nI 1)))))) else (gd (px_obj (px_lay tab x0) 11) ((((σ).2.2 x0 1)).bind fun n1 => oA (px_lay tab n1) fun t2 l3 => gd (t2 = 0) (gd (vp_in x3 l3) ((f_21000 tab σ ((((σ).1 n1 (x3).toNatClampNeg) &&& x1))).bind fun r4 => some (.inl (((x2 + (r4 * ((nI 5) - r4))), (x3 + (nI 1)))))))))))
noncomputable def f_11034_4 (tab : px_T) (σ : px_M) (x0 : Nat) (x1 : Int32) (x2 : Int32) (x3 : Int32) : Option (Int32) := lpO (fun s : Int32 × Int32 => F_11034_4 tab σ x0 x1 s.1 s.2) (x2, x3)
theorem f_11034_4_eq (tab : px_T) (σ : px_M) (x0 : Nat) (x1 : Int32) (x2 : Int32) (x3 : Int32) : f_11034_4 tab σ x0 x1 x2 x3 = (F_11034_4 tab σ x0 x1 x2 x3).bind (Sum.elim (fun s => f_11034_4 tab σ x0 x1 s.1 s.2) some) := lpO_eq _ _
noncomputable def f_11034 (tab : px_T) (σ : px_M) (x0 : Nat) (x1 : Int32) : Option (Int32) := f_11034_4 tab σ x0 x1 ((nI 0)) ((nI 0))
def Sg_11034 (g : px_M → Nat → Int32 → Option (Int32)) : px_S := fun av σ k => px_r1 av (fun x0 av => px_i1 av (fun x1 av => av = [] ∧ oW (g σ x0 x1) (fun r => k (some (.inl r)) σ)))
def kp_11034_4 (Q : Nat → Int32 → Int32 → Int32 → px_M → Prop) : px_P := fun ls st τ => st = [] ∧ kN ls (fun x0 ls => kI ls (fun x1 ls => kI ls (fun x2 ls => kI ls (fun x3 ls => kZ ls (fun ls => kE ls (Q x0 x1 x2 x3 τ))))))
theorem kq_11034_4 {C : px_C} {k : Option px_V → px_M → Prop} {Q : Nat → Int32 → Int32 → Int32 → px_M → Prop} (H : ∀ (x0 : Nat) (x1 : Int32) (x2 : Int32) (x3 : Int32) (τ : px_M), Q x0 x1 x2 x3 τ → ∀ (z4 : Option px_V), px_W C k 4 [some (.inr (.inr (some x0))), some (.inl x1), some (.inl x2), some (.inl x3), z4] [] τ) : ∀ ls st τ, kp_11034_4 Q ls st τ → px_W C k 4 ls st τ := by
  intro ls st τ hz
  obtain ⟨ez, h0⟩ := hz
  obtain ⟨x0, l0, e0, h1⟩ := kN_sp h0
  obtain ⟨x1, l1, e1, h2⟩ := kI_sp h1
  obtain ⟨x2, l2, e2, h3⟩ := kI_sp h2
  obtain ⟨x3, l3, e3, h4⟩ := kI_sp h3
  obtain ⟨z4, l4, e4, h5⟩ := kZ_sp h4
  obtain ⟨ey, hy⟩ := kE_sp h5
  subst ez
  subst ey
  subst e4
  subst e3
  subst e2
  subst e1
  subst e0
  exact H x0 x1 x2 x3 τ hy z4
set_option maxHeartbeats 4000000 in
set_option maxRecDepth 100000 in
theorem rl_11034_4 {C : px_C} (hn : ((px_tb C).map Prod.fst).Nodup) {h : Nat} (hh : 2 ≤ h) (hC : px_ok C pn_i11034 h) {k : Option px_V → px_M → Prop} {x0 : Nat} {x1 : Int32} {σ : px_M} : ∀ s : Int32 × Int32, oW (f_11034_4 (px_tb C) σ x0 x1 s.1 s.2) (fun r => k (some (.inl r)) σ) → (fun s : Int32 × Int32 => ∀ (z4 : Option px_V), px_W C k 4 [some (.inr (.inr (some x0))), some (.inl x1), some (.inl s.1), some (.inl s.2), z4] [] σ) s := by
  intro s h0
  refine lpO_sound (P := (fun s : Int32 × Int32 => ∀ (z4 : Option px_V), px_W C k 4 [some (.inr (.inr (some x0))), some (.inl x1), some (.inl s.1), some (.inl s.2), z4] [] σ)) (fun s hs => ?_) h0
  obtain ⟨x2, x3⟩ := s
  intro z4
  refine px_runG (h - 1) ck_11034 [(21000, Sg_21000 (f_21000 (px_tb C)))] [(4, kp_11034_4 (fun y0 y1 y2 y3 τ => y0 = x0 ∧ y1 = x1 ∧ τ = σ ∧ (fun s : Int32 × Int32 => ∀ (z4 : Option px_V), px_W C k 4 [some (.inr (.inr (some x0))), some (.inl x1), some (.inl s.1), some (.inl s.2), z4] [] σ) (y2, y3)))] 80 hC (px_sp1 (mf_21000 hn (by omega)) px_nosp) (by omega) (px_cut1 (kq_11034_4 (fun y0 y1 y2 y3 τ hq => by obtain ⟨rfl, rfl, rfl, hq⟩ := hq; exact hq)) px_nocut) (fun G Jf hG hJf => ?_)
  simp only [F_11034_4, oW_some, oW_none, oW_bind, oW_map, oW_ite, oW_bn, oW_gd, oW_oA, Sum.elim_inl, Sum.elim_inr, oW_and, true_and, and_true, false_and, and_false, true_or, or_true, false_or, or_false, and_self, or_self, not_false_eq_true, not_true_eq_false, false_implies, forall_const, true_implies, eq_self, ↓reduceIte] at hs
  simp only [↓hG, ↓hJf, ↓px_vc, ↓px_ex, ↓px_jp, ↓px_gi, ↓px_gl, ↓px_gr, ↓px_s1, ↓px_s2, ↓px_nl, ↓px_i1, ↓px_l1, ↓px_r1_o, ↓px_q1, ↓px_i2, ↓px_l2, ↓px_il, ↓px_d0, ↓px_d1, ↓px_d2, ↓px_pop, px_sz, ↓px_sp, ↓px_rd, ↓px_pt, ↓px_rok, ↓px_rv_o, ↓px_fill, ↓px_sl, ↓px_sw, ↓pn_SW, lc_lt, lc_ge, lc_gt, lc_le, lc_eq, ↓reduceIte, Nat.reduceEqDiff, Nat.reduceLeDiff, Nat.reduceAdd, Nat.reduceSub, reduceCtorEq, List.length_cons, List.length_nil, Option.toList_some, Option.toList_none, List.cons_append, List.nil_append, true_and, and_true, false_and, and_false, true_or, or_true, false_or, or_false, and_self, or_self, not_false_eq_true, not_true_eq_false, false_implies, forall_const, true_implies, eq_self, ↓kI_s, ↓kJ_s, ↓kN_s, ↓kO_s, ↓kZ_s, ↓kE_s, oW_and, ↓bk_11034, ↓pn_i11034, oW_some, oW_none, oW_bind, oW_map, oW_ite, oW_bn, oW_gd, oW_oA, Sum.elim_inl, Sum.elim_inr, ↓Sg_21000, ↓kp_11034_4]
  exact hs
set_option maxHeartbeats 4000000 in
set_option maxRecDepth 100000 in
theorem mf_11034 {tab : px_T} (hn : (tab.map Prod.fst).Nodup) {h : Nat} (hh : 2 ≤ h) : px_Ok tab pn_i11034 h (Sg_11034 (f_11034 tab)) := by
  refine px_mth hn (by decide +kernel) (fun av σ k hS => ?_) (fun C hT hC av σ k hS => ?_)
  · obtain ⟨x0, av0, e0, h0⟩ := px_r1_spec hS
    obtain ⟨x1, av1, e1, h1⟩ := px_i1_spec h0
    obtain ⟨ez, hz⟩ := h1
    subst ez
    subst e1
    subst e0
    exact Nat.le_of_ble_eq_true rfl
  · obtain ⟨x0, av0, e0, h0⟩ := px_r1_spec hS
    obtain ⟨x1, av1, e1, h1⟩ := px_i1_spec h0
    obtain ⟨ez, hz⟩ := h1
    subst ez
    subst e1
    subst e0
    subst hT
    refine px_runG (h - 1) ck_11034 [] [(4, kp_11034_4 (fun y0 y1 y2 y3 τ => τ = σ ∧ oW (f_11034_4 (px_tb C) τ y0 y1 y2 y3) (fun r => k (some (.inl r)) σ)))] 80 hC px_nosp (by omega) (px_cut1 (kq_11034_4 (fun y0 y1 y2 y3 τ hq => by obtain ⟨rfl, hq⟩ := hq; exact rl_11034_4 hn (by omega) hC (y2, y3) hq)) px_nocut) (fun G Jf hG hJf => ?_)
    simp only [f_11034, oW_some, oW_none, oW_bind, oW_map, oW_ite, oW_bn, oW_gd, oW_oA, Sum.elim_inl, Sum.elim_inr, oW_and, true_and, and_true, false_and, and_false, true_or, or_true, false_or, or_false, and_self, or_self, not_false_eq_true, not_true_eq_false, false_implies, forall_const, true_implies, eq_self, ↓reduceIte] at hz
    simp only [↓hG, ↓hJf, ↓px_vc, ↓px_ex, ↓px_jp, ↓px_gi, ↓px_gl, ↓px_gr, ↓px_s1, ↓px_s2, ↓px_nl, ↓px_i1, ↓px_l1, ↓px_r1_o, ↓px_q1, ↓px_i2, ↓px_l2, ↓px_il, ↓px_d0, ↓px_d1, ↓px_d2, ↓px_pop, px_sz, ↓px_sp, ↓px_rd, ↓px_pt, ↓px_rok, ↓px_rv_o, ↓px_fill, ↓px_sl, ↓px_sw, ↓pn_SW, lc_lt, lc_ge, lc_gt, lc_le, lc_eq, ↓reduceIte, Nat.reduceEqDiff, Nat.reduceLeDiff, Nat.reduceAdd, Nat.reduceSub, reduceCtorEq, List.length_cons, List.length_nil, Option.toList_some, Option.toList_none, List.cons_append, List.nil_append, true_and, and_true, false_and, and_false, true_or, or_true, false_or, or_false, and_self, or_self, not_false_eq_true, not_true_eq_false, false_implies, forall_const, true_implies, eq_self, ↓kI_s, ↓kJ_s, ↓kN_s, ↓kO_s, ↓kZ_s, ↓kE_s, oW_and, ↓bk_11034, ↓pn_i11034, oW_some, oW_none, oW_bind, oW_map, oW_ite, oW_bn, oW_gd, oW_oA, Sum.elim_inl, Sum.elim_inr, ↓kp_11034_4]
    exact hz
/-- NoThree$Town.calmestSix()I -/
noncomputable def F_11033_6 (tab : px_T) (σ : px_M) (x0 : Nat) (x1 : Int32) (x2 : Int32) (x3 : Int32) : Option ((Int32 × Int32 × Int32) ⊕ (Int32)) := gd (px_obj (px_lay tab x0) 11) ((f_11004 tab σ x0).bind fun r1 => if r1 < x3 then (some (.inr (x1))) else ((f_21000 tab σ x3).bind fun r2 => if r2 = (nI 6) then (gd (px_obj (px_lay tab x0) 11) ((f_11034 tab σ x0 x3).bind fun r3 => if x1 = (-1) then (some (.inl ((x3, r3, (x3 + (nI 1)))))) else (if x2 ≤ r3 then (some (.inl ((x1, x2, (x3 + (nI 1)))))) else (some (.inl ((x3, r3, (x3 + (nI 1))))))))) else (some (.inl ((x1, x2, (x3 + (nI 1))))))))
noncomputable def f_11033_6 (tab : px_T) (σ : px_M) (x0 : Nat) (x1 : Int32) (x2 : Int32) (x3 : Int32) : Option (Int32) := lpO (fun s : Int32 × Int32 × Int32 => F_11033_6 tab σ x0 s.1 s.2.1 s.2.2) (x1, x2, x3)
theorem f_11033_6_eq (tab : px_T) (σ : px_M) (x0 : Nat) (x1 : Int32) (x2 : Int32) (x3 : Int32) : f_11033_6 tab σ x0 x1 x2 x3 = (F_11033_6 tab σ x0 x1 x2 x3).bind (Sum.elim (fun s => f_11033_6 tab σ x0 s.1 s.2.1 s.2.2) some) := lpO_eq _ _
noncomputable def f_11033 (tab : px_T) (σ : px_M) (x0 : Nat) : Option (Int32) := f_11033_6 tab σ x0 ((-1)) ((nI 0)) ((nI 0))
def Sg_11033 (g : px_M → Nat → Option (Int32)) : px_S := fun av σ k => px_r1 av (fun x0 av => av = [] ∧ oW (g σ x0) (fun r => k (some (.inl r)) σ))
def kp_11033_6 (Q : Nat → Int32 → Int32 → Int32 → px_M → Prop) : px_P := fun ls st τ => st = [] ∧ kN ls (fun x0 ls => kI ls (fun x1 ls => kI ls (fun x2 ls => kI ls (fun x3 ls => kZ ls (fun ls => kE ls (Q x0 x1 x2 x3 τ))))))
theorem kq_11033_6 {C : px_C} {k : Option px_V → px_M → Prop} {Q : Nat → Int32 → Int32 → Int32 → px_M → Prop} (H : ∀ (x0 : Nat) (x1 : Int32) (x2 : Int32) (x3 : Int32) (τ : px_M), Q x0 x1 x2 x3 τ → ∀ (z4 : Option px_V), px_W C k 6 [some (.inr (.inr (some x0))), some (.inl x1), some (.inl x2), some (.inl x3), z4] [] τ) : ∀ ls st τ, kp_11033_6 Q ls st τ → px_W C k 6 ls st τ := by
  intro ls st τ hz
  obtain ⟨ez, h0⟩ := hz
  obtain ⟨x0, l0, e0, h1⟩ := kN_sp h0
  obtain ⟨x1, l1, e1, h2⟩ := kI_sp h1
  obtain ⟨x2, l2, e2, h3⟩ := kI_sp h2
  obtain ⟨x3, l3, e3, h4⟩ := kI_sp h3
  obtain ⟨z4, l4, e4, h5⟩ := kZ_sp h4
  obtain ⟨ey, hy⟩ := kE_sp h5
  subst ez
  subst ey
  subst e4
  subst e3
  subst e2
  subst e1
  subst e0
  exact H x0 x1 x2 x3 τ hy z4
set_option maxHeartbeats 4000000 in
set_option maxRecDepth 100000 in
theorem rl_11033_6 {C : px_C} (hn : ((px_tb C).map Prod.fst).Nodup) {h : Nat} (hh : 3 ≤ h) (hC : px_ok C pn_i11033 h) {k : Option px_V → px_M → Prop} {x0 : Nat} {σ : px_M} : ∀ s : Int32 × Int32 × Int32, oW (f_11033_6 (px_tb C) σ x0 s.1 s.2.1 s.2.2) (fun r => k (some (.inl r)) σ) → (fun s : Int32 × Int32 × Int32 => ∀ (z4 : Option px_V), px_W C k 6 [some (.inr (.inr (some x0))), some (.inl s.1), some (.inl s.2.1), some (.inl s.2.2), z4] [] σ) s := by
  intro s h0
  refine lpO_sound (P := (fun s : Int32 × Int32 × Int32 => ∀ (z4 : Option px_V), px_W C k 6 [some (.inr (.inr (some x0))), some (.inl s.1), some (.inl s.2.1), some (.inl s.2.2), z4] [] σ)) (fun s hs => ?_) h0
  obtain ⟨x1, x2, x3⟩ := s
  intro z4
  refine px_runG (h - 1) ck_11033 [(11004, Sg_11004 (f_11004 (px_tb C))), (11034, Sg_11034 (f_11034 (px_tb C))), (21000, Sg_21000 (f_21000 (px_tb C)))] [(6, kp_11033_6 (fun y0 y1 y2 y3 τ => y0 = x0 ∧ τ = σ ∧ (fun s : Int32 × Int32 × Int32 => ∀ (z4 : Option px_V), px_W C k 6 [some (.inr (.inr (some x0))), some (.inl s.1), some (.inl s.2.1), some (.inl s.2.2), z4] [] σ) (y1, y2, y3)))] 80 hC (px_sp1 (mf_11004 hn (by omega)) (px_sp1 (mf_11034 hn (by omega)) (px_sp1 (mf_21000 hn (by omega)) px_nosp))) (by omega) (px_cut1 (kq_11033_6 (fun y0 y1 y2 y3 τ hq => by obtain ⟨rfl, rfl, hq⟩ := hq; exact hq)) px_nocut) (fun G Jf hG hJf => ?_)
  simp only [F_11033_6, oW_some, oW_none, oW_bind, oW_map, oW_ite, oW_bn, oW_gd, oW_oA, Sum.elim_inl, Sum.elim_inr, oW_and, true_and, and_true, false_and, and_false, true_or, or_true, false_or, or_false, and_self, or_self, not_false_eq_true, not_true_eq_false, false_implies, forall_const, true_implies, eq_self, ↓reduceIte] at hs
  simp only [↓hG, ↓hJf, ↓px_vc, ↓px_ex, ↓px_jp, ↓px_gi, ↓px_gl, ↓px_gr, ↓px_s1, ↓px_s2, ↓px_nl, ↓px_i1, ↓px_l1, ↓px_r1_o, ↓px_q1, ↓px_i2, ↓px_l2, ↓px_il, ↓px_d0, ↓px_d1, ↓px_d2, ↓px_pop, px_sz, ↓px_sp, ↓px_rd, ↓px_pt, ↓px_rok, ↓px_rv_o, ↓px_fill, ↓px_sl, ↓px_sw, ↓pn_SW, lc_lt, lc_ge, lc_gt, lc_le, lc_eq, ↓reduceIte, Nat.reduceEqDiff, Nat.reduceLeDiff, Nat.reduceAdd, Nat.reduceSub, reduceCtorEq, List.length_cons, List.length_nil, Option.toList_some, Option.toList_none, List.cons_append, List.nil_append, true_and, and_true, false_and, and_false, true_or, or_true, false_or, or_false, and_self, or_self, not_false_eq_true, not_true_eq_false, false_implies, forall_const, true_implies, eq_self, ↓kI_s, ↓kJ_s, ↓kN_s, ↓kO_s, ↓kZ_s, ↓kE_s, oW_and, ↓bk_11033, ↓pn_i11033, oW_some, oW_none, oW_bind, oW_map, oW_ite, oW_bn, oW_gd, oW_oA, Sum.elim_inl, Sum.elim_inr, ↓Sg_11004, ↓Sg_11034, ↓Sg_21000, ↓kp_11033_6]
  exact hs
set_option maxHeartbeats 4000000 in
set_option maxRecDepth 100000 in
theorem mf_11033 {tab : px_T} (hn : (tab.map Prod.fst).Nodup) {h : Nat} (hh : 3 ≤ h) : px_Ok tab pn_i11033 h (Sg_11033 (f_11033 tab)) := by
  refine px_mth hn (by decide +kernel) (fun av σ k hS => ?_) (fun C hT hC av σ k hS => ?_)
  · obtain ⟨x0, av0, e0, h0⟩ := px_r1_spec hS
    obtain ⟨ez, hz⟩ := h0
    subst ez
    subst e0
    exact Nat.le_of_ble_eq_true rfl
  · obtain ⟨x0, av0, e0, h0⟩ := px_r1_spec hS
    obtain ⟨ez, hz⟩ := h0
    subst ez
    subst e0
    subst hT
    refine px_runG (h - 1) ck_11033 [] [(6, kp_11033_6 (fun y0 y1 y2 y3 τ => τ = σ ∧ oW (f_11033_6 (px_tb C) τ y0 y1 y2 y3) (fun r => k (some (.inl r)) σ)))] 80 hC px_nosp (by omega) (px_cut1 (kq_11033_6 (fun y0 y1 y2 y3 τ hq => by obtain ⟨rfl, hq⟩ := hq; exact rl_11033_6 hn (by omega) hC (y1, y2, y3) hq)) px_nocut) (fun G Jf hG hJf => ?_)
    simp only [f_11033, oW_some, oW_none, oW_bind, oW_map, oW_ite, oW_bn, oW_gd, oW_oA, Sum.elim_inl, Sum.elim_inr, oW_and, true_and, and_true, false_and, and_false, true_or, or_true, false_or, or_false, and_self, or_self, not_false_eq_true, not_true_eq_false, false_implies, forall_const, true_implies, eq_self, ↓reduceIte] at hz
    simp only [↓hG, ↓hJf, ↓px_vc, ↓px_ex, ↓px_jp, ↓px_gi, ↓px_gl, ↓px_gr, ↓px_s1, ↓px_s2, ↓px_nl, ↓px_i1, ↓px_l1, ↓px_r1_o, ↓px_q1, ↓px_i2, ↓px_l2, ↓px_il, ↓px_d0, ↓px_d1, ↓px_d2, ↓px_pop, px_sz, ↓px_sp, ↓px_rd, ↓px_pt, ↓px_rok, ↓px_rv_o, ↓px_fill, ↓px_sl, ↓px_sw, ↓pn_SW, lc_lt, lc_ge, lc_gt, lc_le, lc_eq, ↓reduceIte, Nat.reduceEqDiff, Nat.reduceLeDiff, Nat.reduceAdd, Nat.reduceSub, reduceCtorEq, List.length_cons, List.length_nil, Option.toList_some, Option.toList_none, List.cons_append, List.nil_append, true_and, and_true, false_and, and_false, true_or, or_true, false_or, or_false, and_self, or_self, not_false_eq_true, not_true_eq_false, false_implies, forall_const, true_implies, eq_self, ↓kI_s, ↓kJ_s, ↓kN_s, ↓kO_s, ↓kZ_s, ↓kE_s, oW_and, ↓bk_11033, ↓pn_i11033, oW_some, oW_none, oW_bind, oW_map, oW_ite, oW_bn, oW_gd, oW_oA, Sum.elim_inl, Sum.elim_inr, ↓kp_11033_6]
    exact hz
/-- NoThree.feed(IIIII)I -/
noncomputable def f_12002 (tab : px_T) (σ : px_M) (x0 : Nat) (x1 : Int32) (x2 : Int32) (x3 : Int32) (x4 : Int32) (x5 : Int32) : Option (Int32 × px_M) := gd (px_obj (px_lay tab x0) 12) ((((σ).2.2 x0 3)).bind fun n1 => gd (px_obj (px_lay tab n1) 9) ((f_9002 tab σ n1 ((nI 20))).bind fun r2 => bn (r2 = nI 0) (gd (px_obj (px_lay tab x0) 12) ((((σ).2.2 x0 3)).bind fun n3 => gd (px_obj (px_lay tab n3) 9) ((f_9003 tab σ n3 x1).bind fun q4 => gd (px_obj (px_lay tab x0) 12) ((((q4).2.2 x0 3)).bind fun n5 => gd (px_obj (px_lay tab n5) 9) ((f_9003 tab q4 n5 x2).bind fun q6 => gd (px_obj (px_lay tab x0) 12) ((((q6).2.2 x0 3)).bind fun n7 => gd (px_obj (px_lay tab n7) 9) ((f_9003 tab q6 n7 x3).bind fun q8 => gd (px_obj (px_lay tab x0) 12) ((((q8).2.2 x0 3)).bind fun n9 => gd (px_obj (px_lay tab n9) 9) ((f_9003 tab q8 n9 x4).bind fun q10 => gd (px_obj (px_lay tab x0) 12) ((((q10).2.2 x0 3)).bind fun n11 => gd (px_obj (px_lay tab n11) 9) ((f_9003 tab q10 n11 x5).bind fun q12 => gd (px_obj (px_lay tab x0) 12) ((((q12).2.2 x0 3)).bind fun n13 => gd (px_obj (px_lay tab n13) 9) (some ((((q12).1 n13 0), q12))))))))))))))) (some (((-5), σ)))))
def Sg_12002 (g : px_M → Nat → Int32 → Int32 → Int32 → Int32 → Int32 → Option (Int32 × px_M)) : px_S := fun av σ k => px_r1 av (fun x0 av => px_i1 av (fun x1 av => px_i1 av (fun x2 av => px_i1 av (fun x3 av => px_i1 av (fun x4 av => px_i1 av (fun x5 av => av = [] ∧ oW (g σ x0 x1 x2 x3 x4 x5) (fun q => k (some (.inl q.1)) q.2)))))))
set_option maxHeartbeats 4000000 in
set_option maxRecDepth 100000 in
theorem mf_12002 {tab : px_T} (hn : (tab.map Prod.fst).Nodup) {h : Nat} (hh : 2 ≤ h) : px_Ok tab pn_i12002 h (Sg_12002 (f_12002 tab)) := by
  refine px_mth hn (by decide +kernel) (fun av σ k hS => ?_) (fun C hT hC av σ k hS => ?_)
  · obtain ⟨x0, av0, e0, h0⟩ := px_r1_spec hS
    obtain ⟨x1, av1, e1, h1⟩ := px_i1_spec h0
    obtain ⟨x2, av2, e2, h2⟩ := px_i1_spec h1
    obtain ⟨x3, av3, e3, h3⟩ := px_i1_spec h2
    obtain ⟨x4, av4, e4, h4⟩ := px_i1_spec h3
    obtain ⟨x5, av5, e5, h5⟩ := px_i1_spec h4
    obtain ⟨ez, hz⟩ := h5
    subst ez
    subst e5
    subst e4
    subst e3
    subst e2
    subst e1
    subst e0
    exact Nat.le_of_ble_eq_true rfl
  · obtain ⟨x0, av0, e0, h0⟩ := px_r1_spec hS
    obtain ⟨x1, av1, e1, h1⟩ := px_i1_spec h0
    obtain ⟨x2, av2, e2, h2⟩ := px_i1_spec h1
    obtain ⟨x3, av3, e3, h3⟩ := px_i1_spec h2
    obtain ⟨x4, av4, e4, h4⟩ := px_i1_spec h3
    obtain ⟨x5, av5, e5, h5⟩ := px_i1_spec h4
    obtain ⟨ez, hz⟩ := h5
    subst ez
    subst e5
    subst e4
    subst e3
    subst e2
    subst e1
    subst e0
    subst hT
    refine px_runG (h - 1) ck_12002 [(9002, Sg_9002 (f_9002 (px_tb C))), (9003, Sg_9003 (f_9003 (px_tb C)))] [] 80 hC (px_sp1 (mf_9002 hn (by omega)) (px_sp1 (mf_9003 hn (by omega)) px_nosp)) (by omega) px_nocut (fun G Jf hG hJf => ?_)
    simp only [f_12002, oW_some, oW_none, oW_bind, oW_map, oW_ite, oW_bn, oW_gd, oW_oA, Sum.elim_inl, Sum.elim_inr, oW_and, true_and, and_true, false_and, and_false, true_or, or_true, false_or, or_false, and_self, or_self, not_false_eq_true, not_true_eq_false, false_implies, forall_const, true_implies, eq_self, ↓reduceIte] at hz
    simp only [↓hG, ↓hJf, ↓px_vc, ↓px_ex, ↓px_jp, ↓px_gi, ↓px_gl, ↓px_gr, ↓px_s1, ↓px_s2, ↓px_nl, ↓px_i1, ↓px_l1, ↓px_r1_o, ↓px_q1, ↓px_i2, ↓px_l2, ↓px_il, ↓px_d0, ↓px_d1, ↓px_d2, ↓px_pop, px_sz, ↓px_sp, ↓px_rd, ↓px_pt, ↓px_rok, ↓px_rv_o, ↓px_fill, ↓px_sl, ↓px_sw, ↓pn_SW, lc_lt, lc_ge, lc_gt, lc_le, lc_eq, ↓reduceIte, Nat.reduceEqDiff, Nat.reduceLeDiff, Nat.reduceAdd, Nat.reduceSub, reduceCtorEq, List.length_cons, List.length_nil, Option.toList_some, Option.toList_none, List.cons_append, List.nil_append, true_and, and_true, false_and, and_false, true_or, or_true, false_or, or_false, and_self, or_self, not_false_eq_true, not_true_eq_false, false_implies, forall_const, true_implies, eq_self, ↓kI_s, ↓kJ_s, ↓kN_s, ↓kO_s, ↓kZ_s, ↓kE_s, oW_and, ↓bk_12002, ↓pn_i12002, oW_some, oW_none, oW_bind, oW_map, oW_ite, oW_bn, oW_gd, oW_oA, Sum.elim_inl, Sum.elim_inr, ↓Sg_9002, ↓Sg_9003]
    exact hz
/-- NoThree.fault(I)I -/
noncomputable def f_12004 (tab : px_T) (σ : px_M) (x0 : Nat) (x1 : Int32) : Option (Int32) := bn (x1 = nI 0) (bn (x1 = (nI 1)) (some ((-1))) (gd (px_obj (px_lay tab x0) 12) ((((σ).2.2 x0 3)).bind fun n1 => gd (px_obj (px_lay tab n1) 9) (some (((σ).1 n1 2)))))) (gd (px_obj (px_lay tab x0) 12) ((((σ).2.2 x0 3)).bind fun n2 => gd (px_obj (px_lay tab n2) 9) (some (((σ).1 n2 1)))))
def Sg_12004 (g : px_M → Nat → Int32 → Option (Int32)) : px_S := fun av σ k => px_r1 av (fun x0 av => px_i1 av (fun x1 av => av = [] ∧ oW (g σ x0 x1) (fun r => k (some (.inl r)) σ)))
set_option maxHeartbeats 4000000 in
set_option maxRecDepth 100000 in
theorem mf_12004 {tab : px_T} (hn : (tab.map Prod.fst).Nodup) {h : Nat} (hh : 1 ≤ h) : px_Ok tab pn_i12004 h (Sg_12004 (f_12004 tab)) := by
  refine px_mth hn (by decide +kernel) (fun av σ k hS => ?_) (fun C hT hC av σ k hS => ?_)
  · obtain ⟨x0, av0, e0, h0⟩ := px_r1_spec hS
    obtain ⟨x1, av1, e1, h1⟩ := px_i1_spec h0
    obtain ⟨ez, hz⟩ := h1
    subst ez
    subst e1
    subst e0
    exact Nat.le_of_ble_eq_true rfl
  · obtain ⟨x0, av0, e0, h0⟩ := px_r1_spec hS
    obtain ⟨x1, av1, e1, h1⟩ := px_i1_spec h0
    obtain ⟨ez, hz⟩ := h1
    subst ez
    subst e1
    subst e0
    subst hT
    refine px_runG (h - 1) ck_12004 [] [] 80 hC px_nosp (by omega) px_nocut (fun G Jf hG hJf => ?_)
    simp only [f_12004, oW_some, oW_none, oW_bind, oW_map, oW_ite, oW_bn, oW_gd, oW_oA, Sum.elim_inl, Sum.elim_inr, oW_and, true_and, and_true, false_and, and_false, true_or, or_true, false_or, or_false, and_self, or_self, not_false_eq_true, not_true_eq_false, false_implies, forall_const, true_implies, eq_self, ↓reduceIte] at hz
    simp only [↓hG, ↓hJf, ↓px_vc, ↓px_ex, ↓px_jp, ↓px_gi, ↓px_gl, ↓px_gr, ↓px_s1, ↓px_s2, ↓px_nl, ↓px_i1, ↓px_l1, ↓px_r1_o, ↓px_q1, ↓px_i2, ↓px_l2, ↓px_il, ↓px_d0, ↓px_d1, ↓px_d2, ↓px_pop, px_sz, ↓px_sp, ↓px_rd, ↓px_pt, ↓px_rok, ↓px_rv_o, ↓px_fill, ↓px_sl, ↓px_sw, ↓pn_SW, lc_lt, lc_ge, lc_gt, lc_le, lc_eq, ↓reduceIte, Nat.reduceEqDiff, Nat.reduceLeDiff, Nat.reduceAdd, Nat.reduceSub, reduceCtorEq, List.length_cons, List.length_nil, Option.toList_some, Option.toList_none, List.cons_append, List.nil_append, true_and, and_true, false_and, and_false, true_or, or_true, false_or, or_false, and_self, or_self, not_false_eq_true, not_true_eq_false, false_implies, forall_const, true_implies, eq_self, ↓kI_s, ↓kJ_s, ↓kN_s, ↓kO_s, ↓kZ_s, ↓kE_s, oW_and, ↓bk_12004, ↓pn_i12004, oW_some, oW_none, oW_bind, oW_map, oW_ite, oW_bn, oW_gd, oW_oA, Sum.elim_inl, Sum.elim_inr]
    exact hz
/-- NoThree.house(II)I -/
noncomputable def f_12005 (tab : px_T) (σ : px_M) (x0 : Nat) (x1 : Int32) (x2 : Int32) : Option (Int32) := gd (px_obj (px_lay tab x0) 12) ((((σ).2.2 x0 0)).bind fun n1 => gd (px_obj (px_lay tab n1) 1) ((((σ).2.2 n1 0)).bind fun n2 => gd (px_obj (px_lay tab n2) 11) ((f_11002 tab σ n2 x1).bind fun r3 => bn (r3 = nI 0) ((if x2 = nI 0 then (gd (px_obj (px_lay tab x0) 12) ((((σ).2.2 x0 0)).bind fun n22 => gd (px_obj (px_lay tab n22) 1) ((((σ).2.2 n22 0)).bind fun n23 => gd (px_obj (px_lay tab n23) 11) ((f_11014 tab σ n23 x1).bind fun r24 => some (r24))))) else (if x2 = nI 1 then (gd (px_obj (px_lay tab x0) 12) ((((σ).2.2 x0 0)).bind fun n19 => gd (px_obj (px_lay tab n19) 1) ((((σ).2.2 n19 0)).bind fun n20 => gd (px_obj (px_lay tab n20) 11) ((f_11005 tab σ n20 x1).bind fun r21 => some (r21))))) else (if x2 = nI 2 then (gd (px_obj (px_lay tab x0) 12) ((((σ).2.2 x0 0)).bind fun n16 => gd (px_obj (px_lay tab n16) 1) ((((σ).2.2 n16 0)).bind fun n17 => gd (px_obj (px_lay tab n17) 11) ((f_11022 tab σ n17 x1).bind fun r18 => some (r18))))) else (if x2 = nI 3 then (gd (px_obj (px_lay tab x0) 12) ((((σ).2.2 x0 0)).bind fun n13 => gd (px_obj (px_lay tab n13) 1) ((((σ).2.2 n13 0)).bind fun n14 => gd (px_obj (px_lay tab n14) 11) ((f_11027 tab σ n14 x1).bind fun r15 => some (r15))))) else (if x2 = nI 4 then (gd (px_obj (px_lay tab x0) 12) ((((σ).2.2 x0 0)).bind fun n10 => gd (px_obj (px_lay tab n10) 1) ((((σ).2.2 n10 0)).bind fun n11 => gd (px_obj (px_lay tab n11) 11) ((f_11019 tab σ n11 x1).bind fun r12 => some (r12))))) else (if x2 = nI 5 then (gd (px_obj (px_lay tab x0) 12) ((((σ).2.2 x0 0)).bind fun n7 => gd (px_obj (px_lay tab n7) 1) ((((σ).2.2 n7 0)).bind fun n8 => gd (px_obj (px_lay tab n8) 11) ((f_11017 tab σ n8 x1 ((nI 11))).bind fun r9 => some (r9))))) else (if x2 = nI 6 then (gd (px_obj (px_lay tab x0) 12) ((((σ).2.2 x0 0)).bind fun n4 => gd (px_obj (px_lay tab n4) 1) ((((σ).2.2 n4 0)).bind fun n5 => gd (px_obj (px_lay tab n5) 11) ((f_11018 tab σ n5 x1).bind fun r6 => some (r6))))) else (some ((-2))))))))))) (some ((-2))))))
def Sg_12005 (g : px_M → Nat → Int32 → Int32 → Option (Int32)) : px_S := fun av σ k => px_r1 av (fun x0 av => px_i1 av (fun x1 av => px_i1 av (fun x2 av => av = [] ∧ oW (g σ x0 x1 x2) (fun r => k (some (.inl r)) σ))))
set_option maxHeartbeats 4000000 in
set_option maxRecDepth 100000 in
theorem mf_12005 {tab : px_T} (hn : (tab.map Prod.fst).Nodup) {h : Nat} (hh : 4 ≤ h) : px_Ok tab pn_i12005 h (Sg_12005 (f_12005 tab)) := by
  refine px_mth hn (by decide +kernel) (fun av σ k hS => ?_) (fun C hT hC av σ k hS => ?_)
  · obtain ⟨x0, av0, e0, h0⟩ := px_r1_spec hS
    obtain ⟨x1, av1, e1, h1⟩ := px_i1_spec h0
    obtain ⟨x2, av2, e2, h2⟩ := px_i1_spec h1
    obtain ⟨ez, hz⟩ := h2
    subst ez
    subst e2
    subst e1
    subst e0
    exact Nat.le_of_ble_eq_true rfl
  · obtain ⟨x0, av0, e0, h0⟩ := px_r1_spec hS
    obtain ⟨x1, av1, e1, h1⟩ := px_i1_spec h0
    obtain ⟨x2, av2, e2, h2⟩ := px_i1_spec h1
    obtain ⟨ez, hz⟩ := h2
    subst ez
    subst e2
    subst e1
    subst e0
    subst hT
    refine px_runG (h - 1) ck_12005 [(11002, Sg_11002 (f_11002 (px_tb C))), (11005, Sg_11005 (f_11005 (px_tb C))), (11014, Sg_11014 (f_11014 (px_tb C))), (11017, Sg_11017 (f_11017 (px_tb C))), (11018, Sg_11018 (f_11018 (px_tb C))), (11019, Sg_11019 (f_11019 (px_tb C))), (11022, Sg_11022 (f_11022 (px_tb C))), (11027, Sg_11027 (f_11027 (px_tb C)))] [] 80 hC (px_sp1 (mf_11002 hn (by omega)) (px_sp1 (mf_11005 hn (by omega)) (px_sp1 (mf_11014 hn (by omega)) (px_sp1 (mf_11017 hn (by omega)) (px_sp1 (mf_11018 hn (by omega)) (px_sp1 (mf_11019 hn (by omega)) (px_sp1 (mf_11022 hn (by omega)) (px_sp1 (mf_11027 hn (by omega)) px_nosp)))))))) (by omega) px_nocut (fun G Jf hG hJf => ?_)
    simp only [f_12005, oW_some, oW_none, oW_bind, oW_map, oW_ite, oW_bn, oW_gd, oW_oA, Sum.elim_inl, Sum.elim_inr, oW_and, true_and, and_true, false_and, and_false, true_or, or_true, false_or, or_false, and_self, or_self, not_false_eq_true, not_true_eq_false, false_implies, forall_const, true_implies, eq_self, ↓reduceIte] at hz
    simp only [↓hG, ↓hJf, ↓px_vc, ↓px_ex, ↓px_jp, ↓px_gi, ↓px_gl, ↓px_gr, ↓px_s1, ↓px_s2, ↓px_nl, ↓px_i1, ↓px_l1, ↓px_r1_o, ↓px_q1, ↓px_i2, ↓px_l2, ↓px_il, ↓px_d0, ↓px_d1, ↓px_d2, ↓px_pop, px_sz, ↓px_sp, ↓px_rd, ↓px_pt, ↓px_rok, ↓px_rv_o, ↓px_fill, ↓px_sl, ↓px_sw, ↓pn_SW, lc_lt, lc_ge, lc_gt, lc_le, lc_eq, ↓reduceIte, Nat.reduceEqDiff, Nat.reduceLeDiff, Nat.reduceAdd, Nat.reduceSub, reduceCtorEq, List.length_cons, List.length_nil, Option.toList_some, Option.toList_none, List.cons_append, List.nil_append, true_and, and_true, false_and, and_false, true_or, or_true, false_or, or_false, and_self, or_self, not_false_eq_true, not_true_eq_false, false_implies, forall_const, true_implies, eq_self, ↓kI_s, ↓kJ_s, ↓kN_s, ↓kO_s, ↓kZ_s, ↓kE_s, oW_and, ↓bk_12005, ↓pn_i12005, oW_some, oW_none, oW_bind, oW_map, oW_ite, oW_bn, oW_gd, oW_oA, Sum.elim_inl, Sum.elim_inr, ↓Sg_11002, ↓Sg_11005, ↓Sg_11014, ↓Sg_11017, ↓Sg_11018, ↓Sg_11019, ↓Sg_11022, ↓Sg_11027]
    exact hz
/-- NoThree.steps(II)I -/
noncomputable def f_12006 (tab : px_T) (σ : px_M) (x0 : Nat) (x1 : Int32) (x2 : Int32) : Option (Int32) := gd (px_obj (px_lay tab x0) 12) ((((σ).2.2 x0 0)).bind fun n1 => gd (px_obj (px_lay tab n1) 1) ((((σ).2.2 n1 0)).bind fun n2 => gd (px_obj (px_lay tab n2) 11) ((f_11002 tab σ n2 x1).bind fun r3 => if r3 = nI 0 then (some ((-2))) else (gd (px_obj (px_lay tab x0) 12) ((((σ).2.2 x0 0)).bind fun n4 => gd (px_obj (px_lay tab n4) 1) ((((σ).2.2 n4 0)).bind fun n5 => gd (px_obj (px_lay tab n5) 11) ((f_11002 tab σ n5 x2).bind fun r6 => bn (r6 = nI 0) (gd (px_obj (px_lay tab x0) 12) ((((σ).2.2 x0 0)).bind fun n7 => gd (px_obj (px_lay tab n7) 1) ((((σ).2.2 n7 0)).bind fun n8 => gd (px_obj (px_lay tab n8) 11) ((f_11020 tab σ n8 x1 x2).bind fun r9 => some (r9))))) (some ((-2))))))))))
def Sg_12006 (g : px_M → Nat → Int32 → Int32 → Option (Int32)) : px_S := fun av σ k => px_r1 av (fun x0 av => px_i1 av (fun x1 av => px_i1 av (fun x2 av => av = [] ∧ oW (g σ x0 x1 x2) (fun r => k (some (.inl r)) σ))))
set_option maxHeartbeats 4000000 in
set_option maxRecDepth 100000 in
theorem mf_12006 {tab : px_T} (hn : (tab.map Prod.fst).Nodup) {h : Nat} (hh : 3 ≤ h) : px_Ok tab pn_i12006 h (Sg_12006 (f_12006 tab)) := by
  refine px_mth hn (by decide +kernel) (fun av σ k hS => ?_) (fun C hT hC av σ k hS => ?_)
  · obtain ⟨x0, av0, e0, h0⟩ := px_r1_spec hS
    obtain ⟨x1, av1, e1, h1⟩ := px_i1_spec h0
    obtain ⟨x2, av2, e2, h2⟩ := px_i1_spec h1
    obtain ⟨ez, hz⟩ := h2
    subst ez
    subst e2
    subst e1
    subst e0
    exact Nat.le_of_ble_eq_true rfl
  · obtain ⟨x0, av0, e0, h0⟩ := px_r1_spec hS
    obtain ⟨x1, av1, e1, h1⟩ := px_i1_spec h0
    obtain ⟨x2, av2, e2, h2⟩ := px_i1_spec h1
    obtain ⟨ez, hz⟩ := h2
    subst ez
    subst e2
    subst e1
    subst e0
    subst hT
    refine px_runG (h - 1) ck_12006 [(11002, Sg_11002 (f_11002 (px_tb C))), (11020, Sg_11020 (f_11020 (px_tb C)))] [] 80 hC (px_sp1 (mf_11002 hn (by omega)) (px_sp1 (mf_11020 hn (by omega)) px_nosp)) (by omega) px_nocut (fun G Jf hG hJf => ?_)
    simp only [f_12006, oW_some, oW_none, oW_bind, oW_map, oW_ite, oW_bn, oW_gd, oW_oA, Sum.elim_inl, Sum.elim_inr, oW_and, true_and, and_true, false_and, and_false, true_or, or_true, false_or, or_false, and_self, or_self, not_false_eq_true, not_true_eq_false, false_implies, forall_const, true_implies, eq_self, ↓reduceIte] at hz
    simp only [↓hG, ↓hJf, ↓px_vc, ↓px_ex, ↓px_jp, ↓px_gi, ↓px_gl, ↓px_gr, ↓px_s1, ↓px_s2, ↓px_nl, ↓px_i1, ↓px_l1, ↓px_r1_o, ↓px_q1, ↓px_i2, ↓px_l2, ↓px_il, ↓px_d0, ↓px_d1, ↓px_d2, ↓px_pop, px_sz, ↓px_sp, ↓px_rd, ↓px_pt, ↓px_rok, ↓px_rv_o, ↓px_fill, ↓px_sl, ↓px_sw, ↓pn_SW, lc_lt, lc_ge, lc_gt, lc_le, lc_eq, ↓reduceIte, Nat.reduceEqDiff, Nat.reduceLeDiff, Nat.reduceAdd, Nat.reduceSub, reduceCtorEq, List.length_cons, List.length_nil, Option.toList_some, Option.toList_none, List.cons_append, List.nil_append, true_and, and_true, false_and, and_false, true_or, or_true, false_or, or_false, and_self, or_self, not_false_eq_true, not_true_eq_false, false_implies, forall_const, true_implies, eq_self, ↓kI_s, ↓kJ_s, ↓kN_s, ↓kO_s, ↓kZ_s, ↓kE_s, oW_and, ↓bk_12006, ↓pn_i12006, oW_some, oW_none, oW_bind, oW_map, oW_ite, oW_bn, oW_gd, oW_oA, Sum.elim_inl, Sum.elim_inr, ↓Sg_11002, ↓Sg_11020]
    exact hz
/-- NoThree.convene(LNoThree$Town;)V -/
noncomputable def f_12059 (tab : px_T) (σ : px_M) (x0 : Nat) (x1 : Nat) : Option (px_M) := gd (px_obj (px_lay tab x0) 12) (gd (px_obj (px_lay tab x0) 12) ((((σ).2.2 x0 0)).bind fun n1 => gd (px_obj (px_lay tab n1) 1) ((((σ).2.2 x0 9)).bind fun n2 => gd (px_obj (px_lay tab n2) 2) ((((σ).2.2 n1 1)).bind fun n3 => (f_2002 tab σ n2 n3 x1).bind fun q4 => some (q4)))))
def Sg_12059 (g : px_M → Nat → Nat → Option (px_M)) : px_S := fun av σ k => px_r1 av (fun x0 av => px_r1 av (fun x1 av => av = [] ∧ oW (g σ x0 x1) (fun τ => k none τ)))
set_option maxHeartbeats 4000000 in
set_option maxRecDepth 100000 in
theorem mf_12059 {tab : px_T} (hn : (tab.map Prod.fst).Nodup) {h : Nat} (hh : 2 ≤ h) : px_Ok tab pn_i12059 h (Sg_12059 (f_12059 tab)) := by
  refine px_mth hn (by decide +kernel) (fun av σ k hS => ?_) (fun C hT hC av σ k hS => ?_)
  · obtain ⟨x0, av0, e0, h0⟩ := px_r1_spec hS
    obtain ⟨x1, av1, e1, h1⟩ := px_r1_spec h0
    obtain ⟨ez, hz⟩ := h1
    subst ez
    subst e1
    subst e0
    exact Nat.le_of_ble_eq_true rfl
  · obtain ⟨x0, av0, e0, h0⟩ := px_r1_spec hS
    obtain ⟨x1, av1, e1, h1⟩ := px_r1_spec h0
    obtain ⟨ez, hz⟩ := h1
    subst ez
    subst e1
    subst e0
    subst hT
    refine px_runG (h - 1) ck_12059 [(2002, Sg_2002 (f_2002 (px_tb C)))] [] 80 hC (px_sp1 (mf_2002 hn (by omega)) px_nosp) (by omega) px_nocut (fun G Jf hG hJf => ?_)
    simp only [f_12059, oW_some, oW_none, oW_bind, oW_map, oW_ite, oW_bn, oW_gd, oW_oA, Sum.elim_inl, Sum.elim_inr, oW_and, true_and, and_true, false_and, and_false, true_or, or_true, false_or, or_false, and_self, or_self, not_false_eq_true, not_true_eq_false, false_implies, forall_const, true_implies, eq_self, ↓reduceIte] at hz
    simp only [↓hG, ↓hJf, ↓px_vc, ↓px_ex, ↓px_jp, ↓px_gi, ↓px_gl, ↓px_gr, ↓px_s1, ↓px_s2, ↓px_nl, ↓px_i1, ↓px_l1, ↓px_r1_o, ↓px_q1, ↓px_i2, ↓px_l2, ↓px_il, ↓px_d0, ↓px_d1, ↓px_d2, ↓px_pop, px_sz, ↓px_sp, ↓px_rd, ↓px_pt, ↓px_rok, ↓px_rv_o, ↓px_fill, ↓px_sl, ↓px_sw, ↓pn_SW, lc_lt, lc_ge, lc_gt, lc_le, lc_eq, ↓reduceIte, Nat.reduceEqDiff, Nat.reduceLeDiff, Nat.reduceAdd, Nat.reduceSub, reduceCtorEq, List.length_cons, List.length_nil, Option.toList_some, Option.toList_none, List.cons_append, List.nil_append, true_and, and_true, false_and, and_false, true_or, or_true, false_or, or_false, and_self, or_self, not_false_eq_true, not_true_eq_false, false_implies, forall_const, true_implies, eq_self, ↓kI_s, ↓kJ_s, ↓kN_s, ↓kO_s, ↓kZ_s, ↓kE_s, oW_and, ↓bk_12059, ↓pn_i12059, oW_some, oW_none, oW_bind, oW_map, oW_ite, oW_bn, oW_gd, oW_oA, Sum.elim_inl, Sum.elim_inr, ↓Sg_2002]
    exact hz
