/-! shallow functions, printed by wip/whole/decomp.py -/
def Sg_43 (g : px_M → Nat → Int32 → Option (Int32 × px_M)) : px_S := fun av σ k => px_r1 av (fun x0 av => px_i1 av (fun x1 av => av = [] ∧ oW (g σ x0 x1) (fun q => k (some (.inl q.1)) q.2)))
/-- NoThreeModel.fewestColours(I)I -/
noncomputable def F_43_2 (tab : px_T) (x0 : Nat) (x1 : Int32) (x2 : Int32) (σ : px_M) : Option ((Int32 × px_M) ⊕ (Int32 × px_M)) := gd (px_obj (px_lay tab x0) 0) ((f_42 tab 24 σ x0 ((nI 0)) x2 x1).bind fun q1 => bn (q1.1 = nI 0) (some (.inr ((x2, q1.2)))) (some (.inl (((x2 + (nI 1)), q1.2)))))
noncomputable def f_43_2 (tab : px_T) (x0 : Nat) (x1 : Int32) (x2 : Int32) (σ : px_M) : Option (Int32 × px_M) := lpO (fun s : Int32 × px_M => F_43_2 tab x0 x1 s.1 s.2) (x2, σ)
theorem f_43_2_eq (tab : px_T) (x0 : Nat) (x1 : Int32) (x2 : Int32) (σ : px_M) : f_43_2 tab x0 x1 x2 σ = (F_43_2 tab x0 x1 x2 σ).bind (Sum.elim (fun s => f_43_2 tab x0 x1 s.1 s.2) some) := lpO_eq _ _
noncomputable def f_43 (tab : px_T) (σ : px_M) (x0 : Nat) (x1 : Int32) : Option (Int32 × px_M) := f_43_2 tab x0 x1 ((nI 0)) σ
def kp_43_2 (Q : Nat → Int32 → Int32 → px_M → Prop) : px_P := fun ls st τ => st = [] ∧ kN ls (fun x0 ls => kI ls (fun x1 ls => kI ls (fun x2 ls => kE ls (Q x0 x1 x2 τ))))
theorem kq_43_2 {C : px_C} {k : Option px_V → px_M → Prop} {Q : Nat → Int32 → Int32 → px_M → Prop} (H : ∀ (x0 : Nat) (x1 : Int32) (x2 : Int32) (τ : px_M), Q x0 x1 x2 τ → px_W C k 2 [some (.inr (.inr (some x0))), some (.inl x1), some (.inl x2)] [] τ) : ∀ ls st τ, kp_43_2 Q ls st τ → px_W C k 2 ls st τ := by
  intro ls st τ hz
  obtain ⟨ez, h0⟩ := hz
  obtain ⟨x0, l0, e0, h1⟩ := kN_sp h0
  obtain ⟨x1, l1, e1, h2⟩ := kI_sp h1
  obtain ⟨x2, l2, e2, h3⟩ := kI_sp h2
  obtain ⟨ey, hy⟩ := kE_sp h3
  subst ez
  subst ey
  subst e2
  subst e1
  subst e0
  exact H x0 x1 x2 τ hy
set_option maxHeartbeats 4000000 in
set_option maxRecDepth 100000 in
theorem rl_43_2 {C : px_C} (hn : px_nd (px_tb C)) {h : Nat} (hh : 27 ≤ h) (hC : px_ok C pn_i43 h) {k : Option px_V → px_M → Prop} {x0 : Nat} {x1 : Int32} : ∀ s : Int32 × px_M, oW (f_43_2 (px_tb C) x0 x1 s.1 s.2) (fun q => k (some (.inl q.1)) q.2) → (fun s : Int32 × px_M => px_W C k 2 [some (.inr (.inr (some x0))), some (.inl x1), some (.inl s.1)] [] s.2) s := by
  intro s h0
  refine lpO_sound (P := (fun s : Int32 × px_M => px_W C k 2 [some (.inr (.inr (some x0))), some (.inl x1), some (.inl s.1)] [] s.2)) (fun s hs => ?_) h0
  obtain ⟨x2, σ⟩ := s
  refine px_runG (h - 1) ck_43 [(42, Sg_42 (f_42 (px_tb C) 24))] [(2, kp_43_2 (fun y0 y1 y2 τ => y0 = x0 ∧ y1 = x1 ∧ (fun s : Int32 × px_M => px_W C k 2 [some (.inr (.inr (some x0))), some (.inl x1), some (.inl s.1)] [] s.2) (y2, τ)))] 80 hC (px_sp1 (mf_42 hn (by omega)) px_nosp) (by omega) (px_cut1 (kq_43_2 (fun y0 y1 y2 τ hq => by obtain ⟨rfl, rfl, hq⟩ := hq; exact hq)) px_nocut) (fun G Jf hG hJf => ?_)
  replace hs : oW (F_43_2 (px_tb C) x0 x1 x2 σ) _ := hs
  unfold F_43_2 at hs
  obtain ⟨hc0, hs⟩ := oW_gx hs
  obtain ⟨q1, hc1, hs⟩ := oW_bx hs
  by_cases hc2 : q1.1 = nI 0
  · replace hs := bW_t hs hc2
    simp only [↓hG, ↓hJf, ↓px_vc, ↓px_ex, ↓px_jp, ↓px_gi, ↓px_gl, ↓px_gr, ↓px_s1, ↓px_s2, ↓px_nl, ↓px_i1, ↓px_l1, ↓px_r1_o, ↓px_q1, ↓px_i2, ↓px_l2, ↓px_il, ↓px_d0, ↓px_d1, ↓px_d2, ↓px_pop, px_sz, ↓px_sp, ↓px_rd, ↓px_rf, ↓pn_xf, ↓px_pt, ↓px_rok, ↓px_rv_o, ↓px_fill, ↓px_sl, ↓px_sw, ↓pn_SW, lc_lt, lc_ge, lc_gt, lc_le, lc_eq, ↓reduceIte, Nat.reduceEqDiff, Nat.reduceLeDiff, Nat.reduceAdd, Nat.reduceSub, reduceCtorEq, List.length_cons, List.length_nil, Option.toList_some, Option.toList_none, List.cons_append, List.nil_append, true_and, and_true, false_and, and_false, true_or, or_true, false_or, or_false, and_self, or_self, not_false_eq_true, not_true_eq_false, false_implies, forall_const, true_implies, eq_self, ↓kI_s, ↓kJ_s, ↓kN_s, ↓kO_s, ↓kZ_s, ↓kE_s, oW_some, px_arr_s, nI_10f, ↓bk_43, ↓pn_i43, ↓Sg_42, ↓kp_43_2, eq_true hc0, hc1, eq_true hc2]
    rw [oW_some] at hs
    exact hs
  · replace hs := bW_f hs hc2
    simp only [↓hG, ↓hJf, ↓px_vc, ↓px_ex, ↓px_jp, ↓px_gi, ↓px_gl, ↓px_gr, ↓px_s1, ↓px_s2, ↓px_nl, ↓px_i1, ↓px_l1, ↓px_r1_o, ↓px_q1, ↓px_i2, ↓px_l2, ↓px_il, ↓px_d0, ↓px_d1, ↓px_d2, ↓px_pop, px_sz, ↓px_sp, ↓px_rd, ↓px_rf, ↓pn_xf, ↓px_pt, ↓px_rok, ↓px_rv_o, ↓px_fill, ↓px_sl, ↓px_sw, ↓pn_SW, lc_lt, lc_ge, lc_gt, lc_le, lc_eq, ↓reduceIte, Nat.reduceEqDiff, Nat.reduceLeDiff, Nat.reduceAdd, Nat.reduceSub, reduceCtorEq, List.length_cons, List.length_nil, Option.toList_some, Option.toList_none, List.cons_append, List.nil_append, true_and, and_true, false_and, and_false, true_or, or_true, false_or, or_false, and_self, or_self, not_false_eq_true, not_true_eq_false, false_implies, forall_const, true_implies, eq_self, ↓kI_s, ↓kJ_s, ↓kN_s, ↓kO_s, ↓kZ_s, ↓kE_s, oW_some, px_arr_s, nI_10f, ↓bk_43, ↓pn_i43, ↓Sg_42, ↓kp_43_2, eq_true hc0, hc1, eq_false hc2]
    rw [oW_some] at hs
    exact hs
set_option maxHeartbeats 4000000 in
set_option maxRecDepth 100000 in
theorem mf_43 {tab : px_T} (hn : px_nd tab) {h : Nat} (hh : 27 ≤ h) : px_Ok tab pn_i43 h (Sg_43 (f_43 tab)) := by
  refine px_mth hn (by decide +kernel) (fun av σ k hS => ?_) (fun C hT hC av σ k hS => ?_)
  · obtain ⟨x0, av0, e0, h0⟩ := px_r1_spec hS
    obtain ⟨x1, av1, e1, h1⟩ := px_i1_spec h0
    obtain ⟨ez, hs⟩ := h1
    subst ez
    subst e1
    subst e0
    exact Nat.le_of_ble_eq_true rfl
  · obtain ⟨x0, av0, e0, h0⟩ := px_r1_spec hS
    obtain ⟨x1, av1, e1, h1⟩ := px_i1_spec h0
    obtain ⟨ez, hs⟩ := h1
    subst ez
    subst e1
    subst e0
    subst hT
    refine px_runG (h - 1) ck_43 [] [(2, kp_43_2 (fun y0 y1 y2 τ => oW (f_43_2 (px_tb C) y0 y1 y2 τ) (fun q => k (some (.inl q.1)) q.2)))] 80 hC px_nosp (by omega) (px_cut1 (kq_43_2 (fun y0 y1 y2 τ hq => by exact rl_43_2 hn (by omega) hC (y2, τ) hq)) px_nocut) (fun G Jf hG hJf => ?_)
    unfold f_43 at hs
    simp only [↓hG, ↓hJf, ↓px_vc, ↓px_ex, ↓px_jp, ↓px_gi, ↓px_gl, ↓px_gr, ↓px_s1, ↓px_s2, ↓px_nl, ↓px_i1, ↓px_l1, ↓px_r1_o, ↓px_q1, ↓px_i2, ↓px_l2, ↓px_il, ↓px_d0, ↓px_d1, ↓px_d2, ↓px_pop, px_sz, ↓px_sp, ↓px_rd, ↓px_rf, ↓pn_xf, ↓px_pt, ↓px_rok, ↓px_rv_o, ↓px_fill, ↓px_sl, ↓px_sw, ↓pn_SW, lc_lt, lc_ge, lc_gt, lc_le, lc_eq, ↓reduceIte, Nat.reduceEqDiff, Nat.reduceLeDiff, Nat.reduceAdd, Nat.reduceSub, reduceCtorEq, List.length_cons, List.length_nil, Option.toList_some, Option.toList_none, List.cons_append, List.nil_append, true_and, and_true, false_and, and_false, true_or, or_true, false_or, or_false, and_self, or_self, not_false_eq_true, not_true_eq_false, false_implies, forall_const, true_implies, eq_self, ↓kI_s, ↓kJ_s, ↓kN_s, ↓kO_s, ↓kZ_s, ↓kE_s, oW_some, px_arr_s, nI_10f, ↓bk_43, ↓pn_i43, ↓kp_43_2]
    exact hs
def Sg_44 (g : px_M → Nat → Option (Int32 × px_M)) : px_S := fun av σ k => px_r1 av (fun x0 av => av = [] ∧ oW (g σ x0) (fun q => k (some (.inl q.1)) q.2))
/-- NoThreeModel.halfOf()I -/
noncomputable def F_44_39 (tab : px_T) (σ : px_M) (x0 : Nat) (x3 : Int32) (x1 : Int32) (x2 : Int32) (x4 : Int32) : Option ((Int32 × Int32 × Int32) ⊕ ((Int32 × Int32 × Int32 × px_M) ⊕ (Int32 × px_M))) := gd (px_obj (px_lay tab x0) 0) ((((σ).2.2 x0 1)).bind fun n1 => oA (px_lay tab n1) fun t2 l3 => gd (t2 = 0 ∨ t2 = 11) (gd (vp_in (nI 1) l3) (if (px_av t2 σ n1 ((nI 1)).toNatClampNeg) ≤ x4 then (some (.inr (.inl ((x1, x2, (x3 + (nI 1)), σ))))) else ((((σ).2.2 x0 15)).bind fun n4 => oA (px_lay tab n4) fun t5 l6 => gd (t5 = 0 ∨ t5 = 11) (gd (vp_in x4 l6) (bn ((px_av t5 σ n4 (x4).toNatClampNeg) = (nI 99)) (gd (¬ (nI 2) = nI 0) (bn (((px_av t5 σ n4 (x4).toNatClampNeg) - (px_av t5 σ n4 (x4).toNatClampNeg) / (nI 2) * (nI 2)) = nI 0) (some (.inl ((x1, (x2 ||| ((nI 1) <<< (x4 &&& 31))), (x4 + (nI 1)))))) (some (.inl (((x1 ||| ((nI 1) <<< (x4 &&& 31))), x2, (x4 + (nI 1)))))))) (some (.inl ((x1, x2, (x4 + (nI 1))))))))))))
noncomputable def f_44_39 (tab : px_T) (σ : px_M) (x0 : Nat) (x3 : Int32) (x1 : Int32) (x2 : Int32) (x4 : Int32) : Option ((Int32 × Int32 × Int32 × px_M) ⊕ (Int32 × px_M)) := lpO (fun s : Int32 × Int32 × Int32 => F_44_39 tab σ x0 x3 s.1 s.2.1 s.2.2) (x1, x2, x4)
theorem f_44_39_eq (tab : px_T) (σ : px_M) (x0 : Nat) (x3 : Int32) (x1 : Int32) (x2 : Int32) (x4 : Int32) : f_44_39 tab σ x0 x3 x1 x2 x4 = (F_44_39 tab σ x0 x3 x1 x2 x4).bind (Sum.elim (fun s => f_44_39 tab σ x0 x3 s.1 s.2.1 s.2.2) some) := lpO_eq _ _
noncomputable def F_44_6 (tab : px_T) (x0 : Nat) (x1 : Int32) (x2 : Int32) (x3 : Int32) (σ : px_M) : Option ((Int32 × Int32 × Int32 × px_M) ⊕ (Int32 × px_M)) := gd (px_obj (px_lay tab x0) 0) ((((σ).2.2 x0 1)).bind fun n1 => oA (px_lay tab n1) fun t2 l3 => gd (t2 = 0 ∨ t2 = 11) (gd (vp_in (nI 1) l3) (if (px_av t2 σ n1 ((nI 1)).toNatClampNeg) ≤ x3 then ((f_40 tab σ x0 x1).bind fun r4 => if r4 = nI 0 then (some (.inr (((-1), σ)))) else ((f_40 tab σ x0 x2).bind fun r5 => if r5 = nI 0 then (some (.inr (((-1), σ)))) else (some (.inr ((x1, σ)))))) else ((f_14 tab σ (((x1 ||| x2)).toInt64) x3).bind fun r6 => if r6 = nI 0 then ((f_35 tab σ x0 x3).bind fun q7 => f_44_39 tab q7.2 x0 x3 x1 x2 ((nI 0))) else (some (.inl ((x1, x2, (x3 + (nI 1)), σ))))))))
noncomputable def f_44_6 (tab : px_T) (x0 : Nat) (x1 : Int32) (x2 : Int32) (x3 : Int32) (σ : px_M) : Option (Int32 × px_M) := lpO (fun s : Int32 × Int32 × Int32 × px_M => F_44_6 tab x0 s.1 s.2.1 s.2.2.1 s.2.2.2) (x1, x2, x3, σ)
theorem f_44_6_eq (tab : px_T) (x0 : Nat) (x1 : Int32) (x2 : Int32) (x3 : Int32) (σ : px_M) : f_44_6 tab x0 x1 x2 x3 σ = (F_44_6 tab x0 x1 x2 x3 σ).bind (Sum.elim (fun s => f_44_6 tab x0 s.1 s.2.1 s.2.2.1 s.2.2.2) some) := lpO_eq _ _
noncomputable def f_44 (tab : px_T) (σ : px_M) (x0 : Nat) : Option (Int32 × px_M) := f_44_6 tab x0 ((nI 0)) ((nI 0)) ((nI 0)) σ
def kp_44_39 (Q : Nat → Int32 → Int32 → Int32 → Int32 → px_M → Prop) : px_P := fun ls st τ => st = [] ∧ kN ls (fun x0 ls => kI ls (fun x1 ls => kI ls (fun x2 ls => kI ls (fun x3 ls => kI ls (fun x4 ls => kE ls (Q x0 x1 x2 x3 x4 τ))))))
theorem kq_44_39 {C : px_C} {k : Option px_V → px_M → Prop} {Q : Nat → Int32 → Int32 → Int32 → Int32 → px_M → Prop} (H : ∀ (x0 : Nat) (x1 : Int32) (x2 : Int32) (x3 : Int32) (x4 : Int32) (τ : px_M), Q x0 x1 x2 x3 x4 τ → px_W C k 39 [some (.inr (.inr (some x0))), some (.inl x1), some (.inl x2), some (.inl x3), some (.inl x4)] [] τ) : ∀ ls st τ, kp_44_39 Q ls st τ → px_W C k 39 ls st τ := by
  intro ls st τ hz
  obtain ⟨ez, h0⟩ := hz
  obtain ⟨x0, l0, e0, h1⟩ := kN_sp h0
  obtain ⟨x1, l1, e1, h2⟩ := kI_sp h1
  obtain ⟨x2, l2, e2, h3⟩ := kI_sp h2
  obtain ⟨x3, l3, e3, h4⟩ := kI_sp h3
  obtain ⟨x4, l4, e4, h5⟩ := kI_sp h4
  obtain ⟨ey, hy⟩ := kE_sp h5
  subst ez
  subst ey
  subst e4
  subst e3
  subst e2
  subst e1
  subst e0
  exact H x0 x1 x2 x3 x4 τ hy
def kp_44_6 (Q : Nat → Int32 → Int32 → Int32 → px_M → Prop) : px_P := fun ls st τ => st = [] ∧ kN ls (fun x0 ls => kI ls (fun x1 ls => kI ls (fun x2 ls => kI ls (fun x3 ls => kZ ls (fun ls => kE ls (Q x0 x1 x2 x3 τ))))))
theorem kq_44_6 {C : px_C} {k : Option px_V → px_M → Prop} {Q : Nat → Int32 → Int32 → Int32 → px_M → Prop} (H : ∀ (x0 : Nat) (x1 : Int32) (x2 : Int32) (x3 : Int32) (τ : px_M), Q x0 x1 x2 x3 τ → ∀ (z4 : Option px_V), px_W C k 6 [some (.inr (.inr (some x0))), some (.inl x1), some (.inl x2), some (.inl x3), z4] [] τ) : ∀ ls st τ, kp_44_6 Q ls st τ → px_W C k 6 ls st τ := by
  intro ls st τ hz
  obtain ⟨ez, h0⟩ := hz
  obtain ⟨x0, l0, e0, h1⟩ := kN_sp h0
  obtain ⟨x1, l1, e1, h2⟩ := kI_sp h1
  obtain ⟨x2, l2, e2, h3⟩ := kI_sp h2
  obtain ⟨x3, l3, e3, h4⟩ := kI_sp h3
  obtain ⟨z4, l4, e4, h5⟩ := kZ_sp h4
  obtain ⟨ey, hy⟩ := kE_sp h5
  subst ez
  subst ey
  subst e4
  subst e3
  subst e2
  subst e1
  subst e0
  exact H x0 x1 x2 x3 τ hy z4
set_option maxHeartbeats 4000000 in
set_option maxRecDepth 100000 in
theorem rl_44_39 {C : px_C} (hn : px_nd (px_tb C)) {h : Nat} (hh : 3 ≤ h) (hC : px_ok C pn_i44 h) {k : Option px_V → px_M → Prop} {x0 : Nat} {x3 : Int32} {σ : px_M} : ∀ s : Int32 × Int32 × Int32, oW (f_44_39 (px_tb C) σ x0 x3 s.1 s.2.1 s.2.2) (Sum.elim (fun s : Int32 × Int32 × Int32 × px_M => ∀ (z4 : Option px_V), px_W C k 6 [some (.inr (.inr (some x0))), some (.inl s.1), some (.inl s.2.1), some (.inl s.2.2.1), z4] [] s.2.2.2) (fun q => k (some (.inl q.1)) q.2)) → (fun s : Int32 × Int32 × Int32 => px_W C k 39 [some (.inr (.inr (some x0))), some (.inl s.1), some (.inl s.2.1), some (.inl x3), some (.inl s.2.2)] [] σ) s := by
  intro s h0
  refine lpO_sound (P := (fun s : Int32 × Int32 × Int32 => px_W C k 39 [some (.inr (.inr (some x0))), some (.inl s.1), some (.inl s.2.1), some (.inl x3), some (.inl s.2.2)] [] σ)) (fun s hs => ?_) h0
  obtain ⟨x1, x2, x4⟩ := s
  refine px_runG (h - 1) ck_44 [] [(6, kp_44_6 (fun y0 y1 y2 y3 τ => y0 = x0 ∧ (fun s : Int32 × Int32 × Int32 × px_M => ∀ (z4 : Option px_V), px_W C k 6 [some (.inr (.inr (some x0))), some (.inl s.1), some (.inl s.2.1), some (.inl s.2.2.1), z4] [] s.2.2.2) (y1, y2, y3, τ))), (39, kp_44_39 (fun y0 y1 y2 y3 y4 τ => y0 = x0 ∧ y3 = x3 ∧ τ = σ ∧ (fun s : Int32 × Int32 × Int32 => px_W C k 39 [some (.inr (.inr (some x0))), some (.inl s.1), some (.inl s.2.1), some (.inl x3), some (.inl s.2.2)] [] σ) (y1, y2, y4)))] 80 hC px_nosp (by omega) (px_cut1 (kq_44_6 (fun y0 y1 y2 y3 τ hq => by obtain ⟨rfl, hq⟩ := hq; exact hq)) (px_cut1 (kq_44_39 (fun y0 y1 y2 y3 y4 τ hq => by obtain ⟨rfl, rfl, rfl, hq⟩ := hq; exact hq)) px_nocut)) (fun G Jf hG hJf => ?_)
  replace hs : oW (F_44_39 (px_tb C) σ x0 x3 x1 x2 x4) _ := hs
  unfold F_44_39 at hs
  obtain ⟨hc0, hs⟩ := oW_gx hs
  obtain ⟨n1, hc1, hs⟩ := oW_bx hs
  obtain ⟨t2, l3, hc2, hs⟩ := oW_ax hs
  obtain ⟨hc3, hs⟩ := oW_gx hs
  obtain ⟨hc4, hs⟩ := oW_gx hs
  by_cases hc5 : (px_av t2 σ n1 ((nI 1)).toNatClampNeg) ≤ x4
  · replace hs := oW_t hs hc5
    simp only [↓hG, ↓hJf, ↓px_vc, ↓px_ex, ↓px_jp, ↓px_gi, ↓px_gl, ↓px_gr, ↓px_s1, ↓px_s2, ↓px_nl, ↓px_i1, ↓px_l1, ↓px_r1_o, ↓px_q1, ↓px_i2, ↓px_l2, ↓px_il, ↓px_d0, ↓px_d1, ↓px_d2, ↓px_pop, px_sz, ↓px_sp, ↓px_rd, ↓px_rf, ↓pn_xf, ↓px_pt, ↓px_rok, ↓px_rv_o, ↓px_fill, ↓px_sl, ↓px_sw, ↓pn_SW, lc_lt, lc_ge, lc_gt, lc_le, lc_eq, ↓reduceIte, Nat.reduceEqDiff, Nat.reduceLeDiff, Nat.reduceAdd, Nat.reduceSub, reduceCtorEq, List.length_cons, List.length_nil, Option.toList_some, Option.toList_none, List.cons_append, List.nil_append, true_and, and_true, false_and, and_false, true_or, or_true, false_or, or_false, and_self, or_self, not_false_eq_true, not_true_eq_false, false_implies, forall_const, true_implies, eq_self, ↓kI_s, ↓kJ_s, ↓kN_s, ↓kO_s, ↓kZ_s, ↓kE_s, oW_some, px_arr_s, nI_10f, ↓bk_44, ↓pn_i44, ↓kp_44_6, ↓kp_44_39, eq_true hc0, hc1, hc2, eq_true hc3, eq_true hc4, eq_true hc5]
    rw [oW_some] at hs
    exact hs
  · replace hs := oW_f hs hc5
    obtain ⟨n4, hc6, hs⟩ := oW_bx hs
    obtain ⟨t5, l6, hc7, hs⟩ := oW_ax hs
    obtain ⟨hc8, hs⟩ := oW_gx hs
    obtain ⟨hc9, hs⟩ := oW_gx hs
    by_cases hc10 : (px_av t5 σ n4 (x4).toNatClampNeg) = (nI 99)
    · replace hs := bW_t hs hc10
      simp only [↓hG, ↓hJf, ↓px_vc, ↓px_ex, ↓px_jp, ↓px_gi, ↓px_gl, ↓px_gr, ↓px_s1, ↓px_s2, ↓px_nl, ↓px_i1, ↓px_l1, ↓px_r1_o, ↓px_q1, ↓px_i2, ↓px_l2, ↓px_il, ↓px_d0, ↓px_d1, ↓px_d2, ↓px_pop, px_sz, ↓px_sp, ↓px_rd, ↓px_rf, ↓pn_xf, ↓px_pt, ↓px_rok, ↓px_rv_o, ↓px_fill, ↓px_sl, ↓px_sw, ↓pn_SW, lc_lt, lc_ge, lc_gt, lc_le, lc_eq, ↓reduceIte, Nat.reduceEqDiff, Nat.reduceLeDiff, Nat.reduceAdd, Nat.reduceSub, reduceCtorEq, List.length_cons, List.length_nil, Option.toList_some, Option.toList_none, List.cons_append, List.nil_append, true_and, and_true, false_and, and_false, true_or, or_true, false_or, or_false, and_self, or_self, not_false_eq_true, not_true_eq_false, false_implies, forall_const, true_implies, eq_self, ↓kI_s, ↓kJ_s, ↓kN_s, ↓kO_s, ↓kZ_s, ↓kE_s, oW_some, px_arr_s, nI_10f, ↓bk_44, ↓pn_i44, ↓kp_44_6, ↓kp_44_39, eq_true hc0, hc1, hc2, eq_true hc3, eq_true hc4, eq_false hc5, hc6, hc7, eq_true hc8, eq_true hc9, eq_true hc10]
      rw [oW_some] at hs
      exact hs
    · replace hs := bW_f hs hc10
      obtain ⟨hc11, hs⟩ := oW_gx hs
      by_cases hc12 : ((px_av t5 σ n4 (x4).toNatClampNeg) - (px_av t5 σ n4 (x4).toNatClampNeg) / (nI 2) * (nI 2)) = nI 0
      · replace hs := bW_t hs hc12
        simp only [↓hG, ↓hJf, ↓px_vc, ↓px_ex, ↓px_jp, ↓px_gi, ↓px_gl, ↓px_gr, ↓px_s1, ↓px_s2, ↓px_nl, ↓px_i1, ↓px_l1, ↓px_r1_o, ↓px_q1, ↓px_i2, ↓px_l2, ↓px_il, ↓px_d0, ↓px_d1, ↓px_d2, ↓px_pop, px_sz, ↓px_sp, ↓px_rd, ↓px_rf, ↓pn_xf, ↓px_pt, ↓px_rok, ↓px_rv_o, ↓px_fill, ↓px_sl, ↓px_sw, ↓pn_SW, lc_lt, lc_ge, lc_gt, lc_le, lc_eq, ↓reduceIte, Nat.reduceEqDiff, Nat.reduceLeDiff, Nat.reduceAdd, Nat.reduceSub, reduceCtorEq, List.length_cons, List.length_nil, Option.toList_some, Option.toList_none, List.cons_append, List.nil_append, true_and, and_true, false_and, and_false, true_or, or_true, false_or, or_false, and_self, or_self, not_false_eq_true, not_true_eq_false, false_implies, forall_const, true_implies, eq_self, ↓kI_s, ↓kJ_s, ↓kN_s, ↓kO_s, ↓kZ_s, ↓kE_s, oW_some, px_arr_s, nI_10f, ↓bk_44, ↓pn_i44, ↓kp_44_6, ↓kp_44_39, eq_true hc0, hc1, hc2, eq_true hc3, eq_true hc4, eq_false hc5, hc6, hc7, eq_true hc8, eq_true hc9, eq_false hc10, eq_true hc11, eq_true hc12]
        rw [oW_some] at hs
        exact hs
      · replace hs := bW_f hs hc12
        simp only [↓hG, ↓hJf, ↓px_vc, ↓px_ex, ↓px_jp, ↓px_gi, ↓px_gl, ↓px_gr, ↓px_s1, ↓px_s2, ↓px_nl, ↓px_i1, ↓px_l1, ↓px_r1_o, ↓px_q1, ↓px_i2, ↓px_l2, ↓px_il, ↓px_d0, ↓px_d1, ↓px_d2, ↓px_pop, px_sz, ↓px_sp, ↓px_rd, ↓px_rf, ↓pn_xf, ↓px_pt, ↓px_rok, ↓px_rv_o, ↓px_fill, ↓px_sl, ↓px_sw, ↓pn_SW, lc_lt, lc_ge, lc_gt, lc_le, lc_eq, ↓reduceIte, Nat.reduceEqDiff, Nat.reduceLeDiff, Nat.reduceAdd, Nat.reduceSub, reduceCtorEq, List.length_cons, List.length_nil, Option.toList_some, Option.toList_none, List.cons_append, List.nil_append, true_and, and_true, false_and, and_false, true_or, or_true, false_or, or_false, and_self, or_self, not_false_eq_true, not_true_eq_false, false_implies, forall_const, true_implies, eq_self, ↓kI_s, ↓kJ_s, ↓kN_s, ↓kO_s, ↓kZ_s, ↓kE_s, oW_some, px_arr_s, nI_10f, ↓bk_44, ↓pn_i44, ↓kp_44_6, ↓kp_44_39, eq_true hc0, hc1, hc2, eq_true hc3, eq_true hc4, eq_false hc5, hc6, hc7, eq_true hc8, eq_true hc9, eq_false hc10, eq_true hc11, eq_false hc12]
        rw [oW_some] at hs
        exact hs
set_option maxHeartbeats 4000000 in
set_option maxRecDepth 100000 in
theorem rl_44_6 {C : px_C} (hn : px_nd (px_tb C)) {h : Nat} (hh : 3 ≤ h) (hC : px_ok C pn_i44 h) {k : Option px_V → px_M → Prop} {x0 : Nat} : ∀ s : Int32 × Int32 × Int32 × px_M, oW (f_44_6 (px_tb C) x0 s.1 s.2.1 s.2.2.1 s.2.2.2) (fun q => k (some (.inl q.1)) q.2) → (fun s : Int32 × Int32 × Int32 × px_M => ∀ (z4 : Option px_V), px_W C k 6 [some (.inr (.inr (some x0))), some (.inl s.1), some (.inl s.2.1), some (.inl s.2.2.1), z4] [] s.2.2.2) s := by
  intro s h0
  refine lpO_sound (P := (fun s : Int32 × Int32 × Int32 × px_M => ∀ (z4 : Option px_V), px_W C k 6 [some (.inr (.inr (some x0))), some (.inl s.1), some (.inl s.2.1), some (.inl s.2.2.1), z4] [] s.2.2.2)) (fun s hs => ?_) h0
  obtain ⟨x1, x2, x3, σ⟩ := s
  intro z4
  refine px_runG (h - 1) ck_44 [(14, Sg_14 (f_14 (px_tb C))), (35, Sg_35 (f_35 (px_tb C))), (40, Sg_40 (f_40 (px_tb C)))] [(6, kp_44_6 (fun y0 y1 y2 y3 τ => y0 = x0 ∧ (fun s : Int32 × Int32 × Int32 × px_M => ∀ (z4 : Option px_V), px_W C k 6 [some (.inr (.inr (some x0))), some (.inl s.1), some (.inl s.2.1), some (.inl s.2.2.1), z4] [] s.2.2.2) (y1, y2, y3, τ))), (39, kp_44_39 (fun y0 y1 y2 y3 y4 τ => y0 = x0 ∧ oW (f_44_39 (px_tb C) τ y0 y3 y1 y2 y4) (Sum.elim (fun s : Int32 × Int32 × Int32 × px_M => ∀ (z4 : Option px_V), px_W C k 6 [some (.inr (.inr (some x0))), some (.inl s.1), some (.inl s.2.1), some (.inl s.2.2.1), z4] [] s.2.2.2) (fun q => k (some (.inl q.1)) q.2))))] 80 hC (px_sp1 (mf_14 hn (by omega)) (px_sp1 (mf_35 hn (by omega)) (px_sp1 (mf_40 hn (by omega)) px_nosp))) (by omega) (px_cut1 (kq_44_6 (fun y0 y1 y2 y3 τ hq => by obtain ⟨rfl, hq⟩ := hq; exact hq)) (px_cut1 (kq_44_39 (fun y0 y1 y2 y3 y4 τ hq => by obtain ⟨rfl, hq⟩ := hq; exact rl_44_39 hn (by omega) hC (y1, y2, y4) hq)) px_nocut)) (fun G Jf hG hJf => ?_)
  replace hs : oW (F_44_6 (px_tb C) x0 x1 x2 x3 σ) _ := hs
  unfold F_44_6 at hs
  obtain ⟨hc0, hs⟩ := oW_gx hs
  obtain ⟨n1, hc1, hs⟩ := oW_bx hs
  obtain ⟨t2, l3, hc2, hs⟩ := oW_ax hs
  obtain ⟨hc3, hs⟩ := oW_gx hs
  obtain ⟨hc4, hs⟩ := oW_gx hs
  by_cases hc5 : (px_av t2 σ n1 ((nI 1)).toNatClampNeg) ≤ x3
  · replace hs := oW_t hs hc5
    obtain ⟨r4, hc6, hs⟩ := oW_bx hs
    by_cases hc7 : r4 = nI 0
    · replace hs := oW_t hs hc7
      simp only [↓hG, ↓hJf, ↓px_vc, ↓px_ex, ↓px_jp, ↓px_gi, ↓px_gl, ↓px_gr, ↓px_s1, ↓px_s2, ↓px_nl, ↓px_i1, ↓px_l1, ↓px_r1_o, ↓px_q1, ↓px_i2, ↓px_l2, ↓px_il, ↓px_d0, ↓px_d1, ↓px_d2, ↓px_pop, px_sz, ↓px_sp, ↓px_rd, ↓px_rf, ↓pn_xf, ↓px_pt, ↓px_rok, ↓px_rv_o, ↓px_fill, ↓px_sl, ↓px_sw, ↓pn_SW, lc_lt, lc_ge, lc_gt, lc_le, lc_eq, ↓reduceIte, Nat.reduceEqDiff, Nat.reduceLeDiff, Nat.reduceAdd, Nat.reduceSub, reduceCtorEq, List.length_cons, List.length_nil, Option.toList_some, Option.toList_none, List.cons_append, List.nil_append, true_and, and_true, false_and, and_false, true_or, or_true, false_or, or_false, and_self, or_self, not_false_eq_true, not_true_eq_false, false_implies, forall_const, true_implies, eq_self, ↓kI_s, ↓kJ_s, ↓kN_s, ↓kO_s, ↓kZ_s, ↓kE_s, oW_some, px_arr_s, nI_10f, ↓bk_44, ↓pn_i44, ↓Sg_14, ↓Sg_35, ↓Sg_40, ↓kp_44_6, ↓kp_44_39, eq_true hc0, hc1, hc2, eq_true hc3, eq_true hc4, eq_true hc5, hc6, eq_true hc7]
      rw [oW_some] at hs
      exact hs
    · replace hs := oW_f hs hc7
      obtain ⟨r5, hc8, hs⟩ := oW_bx hs
      by_cases hc9 : r5 = nI 0
      · replace hs := oW_t hs hc9
        simp only [↓hG, ↓hJf, ↓px_vc, ↓px_ex, ↓px_jp, ↓px_gi, ↓px_gl, ↓px_gr, ↓px_s1, ↓px_s2, ↓px_nl, ↓px_i1, ↓px_l1, ↓px_r1_o, ↓px_q1, ↓px_i2, ↓px_l2, ↓px_il, ↓px_d0, ↓px_d1, ↓px_d2, ↓px_pop, px_sz, ↓px_sp, ↓px_rd, ↓px_rf, ↓pn_xf, ↓px_pt, ↓px_rok, ↓px_rv_o, ↓px_fill, ↓px_sl, ↓px_sw, ↓pn_SW, lc_lt, lc_ge, lc_gt, lc_le, lc_eq, ↓reduceIte, Nat.reduceEqDiff, Nat.reduceLeDiff, Nat.reduceAdd, Nat.reduceSub, reduceCtorEq, List.length_cons, List.length_nil, Option.toList_some, Option.toList_none, List.cons_append, List.nil_append, true_and, and_true, false_and, and_false, true_or, or_true, false_or, or_false, and_self, or_self, not_false_eq_true, not_true_eq_false, false_implies, forall_const, true_implies, eq_self, ↓kI_s, ↓kJ_s, ↓kN_s, ↓kO_s, ↓kZ_s, ↓kE_s, oW_some, px_arr_s, nI_10f, ↓bk_44, ↓pn_i44, ↓Sg_14, ↓Sg_35, ↓Sg_40, ↓kp_44_6, ↓kp_44_39, eq_true hc0, hc1, hc2, eq_true hc3, eq_true hc4, eq_true hc5, hc6, eq_false hc7, hc8, eq_true hc9]
        rw [oW_some] at hs
        exact hs
      · replace hs := oW_f hs hc9
        simp only [↓hG, ↓hJf, ↓px_vc, ↓px_ex, ↓px_jp, ↓px_gi, ↓px_gl, ↓px_gr, ↓px_s1, ↓px_s2, ↓px_nl, ↓px_i1, ↓px_l1, ↓px_r1_o, ↓px_q1, ↓px_i2, ↓px_l2, ↓px_il, ↓px_d0, ↓px_d1, ↓px_d2, ↓px_pop, px_sz, ↓px_sp, ↓px_rd, ↓px_rf, ↓pn_xf, ↓px_pt, ↓px_rok, ↓px_rv_o, ↓px_fill, ↓px_sl, ↓px_sw, ↓pn_SW, lc_lt, lc_ge, lc_gt, lc_le, lc_eq, ↓reduceIte, Nat.reduceEqDiff, Nat.reduceLeDiff, Nat.reduceAdd, Nat.reduceSub, reduceCtorEq, List.length_cons, List.length_nil, Option.toList_some, Option.toList_none, List.cons_append, List.nil_append, true_and, and_true, false_and, and_false, true_or, or_true, false_or, or_false, and_self, or_self, not_false_eq_true, not_true_eq_false, false_implies, forall_const, true_implies, eq_self, ↓kI_s, ↓kJ_s, ↓kN_s, ↓kO_s, ↓kZ_s, ↓kE_s, oW_some, px_arr_s, nI_10f, ↓bk_44, ↓pn_i44, ↓Sg_14, ↓Sg_35, ↓Sg_40, ↓kp_44_6, ↓kp_44_39, eq_true hc0, hc1, hc2, eq_true hc3, eq_true hc4, eq_true hc5, hc6, eq_false hc7, hc8, eq_false hc9]
        rw [oW_some] at hs
        exact hs
  · replace hs := oW_f hs hc5
    obtain ⟨r6, hc6, hs⟩ := oW_bx hs
    by_cases hc7 : r6 = nI 0
    · replace hs := oW_t hs hc7
      obtain ⟨q7, hc8, hs⟩ := oW_bx hs
      simp only [↓hG, ↓hJf, ↓px_vc, ↓px_ex, ↓px_jp, ↓px_gi, ↓px_gl, ↓px_gr, ↓px_s1, ↓px_s2, ↓px_nl, ↓px_i1, ↓px_l1, ↓px_r1_o, ↓px_q1, ↓px_i2, ↓px_l2, ↓px_il, ↓px_d0, ↓px_d1, ↓px_d2, ↓px_pop, px_sz, ↓px_sp, ↓px_rd, ↓px_rf, ↓pn_xf, ↓px_pt, ↓px_rok, ↓px_rv_o, ↓px_fill, ↓px_sl, ↓px_sw, ↓pn_SW, lc_lt, lc_ge, lc_gt, lc_le, lc_eq, ↓reduceIte, Nat.reduceEqDiff, Nat.reduceLeDiff, Nat.reduceAdd, Nat.reduceSub, reduceCtorEq, List.length_cons, List.length_nil, Option.toList_some, Option.toList_none, List.cons_append, List.nil_append, true_and, and_true, false_and, and_false, true_or, or_true, false_or, or_false, and_self, or_self, not_false_eq_true, not_true_eq_false, false_implies, forall_const, true_implies, eq_self, ↓kI_s, ↓kJ_s, ↓kN_s, ↓kO_s, ↓kZ_s, ↓kE_s, oW_some, px_arr_s, nI_10f, ↓bk_44, ↓pn_i44, ↓Sg_14, ↓Sg_35, ↓Sg_40, ↓kp_44_6, ↓kp_44_39, eq_true hc0, hc1, hc2, eq_true hc3, eq_true hc4, eq_false hc5, hc6, eq_true hc7, hc8]
      exact hs
    · replace hs := oW_f hs hc7
      simp only [↓hG, ↓hJf, ↓px_vc, ↓px_ex, ↓px_jp, ↓px_gi, ↓px_gl, ↓px_gr, ↓px_s1, ↓px_s2, ↓px_nl, ↓px_i1, ↓px_l1, ↓px_r1_o, ↓px_q1, ↓px_i2, ↓px_l2, ↓px_il, ↓px_d0, ↓px_d1, ↓px_d2, ↓px_pop, px_sz, ↓px_sp, ↓px_rd, ↓px_rf, ↓pn_xf, ↓px_pt, ↓px_rok, ↓px_rv_o, ↓px_fill, ↓px_sl, ↓px_sw, ↓pn_SW, lc_lt, lc_ge, lc_gt, lc_le, lc_eq, ↓reduceIte, Nat.reduceEqDiff, Nat.reduceLeDiff, Nat.reduceAdd, Nat.reduceSub, reduceCtorEq, List.length_cons, List.length_nil, Option.toList_some, Option.toList_none, List.cons_append, List.nil_append, true_and, and_true, false_and, and_false, true_or, or_true, false_or, or_false, and_self, or_self, not_false_eq_true, not_true_eq_false, false_implies, forall_const, true_implies, eq_self, ↓kI_s, ↓kJ_s, ↓kN_s, ↓kO_s, ↓kZ_s, ↓kE_s, oW_some, px_arr_s, nI_10f, ↓bk_44, ↓pn_i44, ↓Sg_14, ↓Sg_35, ↓Sg_40, ↓kp_44_6, ↓kp_44_39, eq_true hc0, hc1, hc2, eq_true hc3, eq_true hc4, eq_false hc5, hc6, eq_false hc7]
      rw [oW_some] at hs
      exact hs
set_option maxHeartbeats 4000000 in
set_option maxRecDepth 100000 in
theorem mf_44 {tab : px_T} (hn : px_nd tab) {h : Nat} (hh : 3 ≤ h) : px_Ok tab pn_i44 h (Sg_44 (f_44 tab)) := by
  refine px_mth hn (by decide +kernel) (fun av σ k hS => ?_) (fun C hT hC av σ k hS => ?_)
  · obtain ⟨x0, av0, e0, h0⟩ := px_r1_spec hS
    obtain ⟨ez, hs⟩ := h0
    subst ez
    subst e0
    exact Nat.le_of_ble_eq_true rfl
  · obtain ⟨x0, av0, e0, h0⟩ := px_r1_spec hS
    obtain ⟨ez, hs⟩ := h0
    subst ez
    subst e0
    subst hT
    refine px_runG (h - 1) ck_44 [] [(6, kp_44_6 (fun y0 y1 y2 y3 τ => oW (f_44_6 (px_tb C) y0 y1 y2 y3 τ) (fun q => k (some (.inl q.1)) q.2)))] 80 hC px_nosp (by omega) (px_cut1 (kq_44_6 (fun y0 y1 y2 y3 τ hq => by exact rl_44_6 hn (by omega) hC (y1, y2, y3, τ) hq)) px_nocut) (fun G Jf hG hJf => ?_)
    unfold f_44 at hs
    simp only [↓hG, ↓hJf, ↓px_vc, ↓px_ex, ↓px_jp, ↓px_gi, ↓px_gl, ↓px_gr, ↓px_s1, ↓px_s2, ↓px_nl, ↓px_i1, ↓px_l1, ↓px_r1_o, ↓px_q1, ↓px_i2, ↓px_l2, ↓px_il, ↓px_d0, ↓px_d1, ↓px_d2, ↓px_pop, px_sz, ↓px_sp, ↓px_rd, ↓px_rf, ↓pn_xf, ↓px_pt, ↓px_rok, ↓px_rv_o, ↓px_fill, ↓px_sl, ↓px_sw, ↓pn_SW, lc_lt, lc_ge, lc_gt, lc_le, lc_eq, ↓reduceIte, Nat.reduceEqDiff, Nat.reduceLeDiff, Nat.reduceAdd, Nat.reduceSub, reduceCtorEq, List.length_cons, List.length_nil, Option.toList_some, Option.toList_none, List.cons_append, List.nil_append, true_and, and_true, false_and, and_false, true_or, or_true, false_or, or_false, and_self, or_self, not_false_eq_true, not_true_eq_false, false_implies, forall_const, true_implies, eq_self, ↓kI_s, ↓kJ_s, ↓kN_s, ↓kO_s, ↓kZ_s, ↓kE_s, oW_some, px_arr_s, nI_10f, ↓bk_44, ↓pn_i44, ↓kp_44_6]
    exact hs
def Sg_45 (g : px_M → Nat → Option (Int32)) : px_S := fun av σ k => px_r1 av (fun x0 av => av = [] ∧ oW (g σ x0) (fun r => k (some (.inl r)) σ))
/-- NoThreeModel.doorMany()I -/
noncomputable def F_45_4 (tab : px_T) (σ : px_M) (x0 : Nat) (x1 : Int32) (x2 : Int32) : Option ((Int32 × Int32) ⊕ (Int32)) := gd (px_obj (px_lay tab x0) 0) ((((σ).2.2 x0 1)).bind fun n1 => oA (px_lay tab n1) fun t2 l3 => gd (t2 = 0 ∨ t2 = 11) (gd (vp_in (nI 1) l3) (if (px_av t2 σ n1 ((nI 1)).toNatClampNeg) ≤ x2 then (gd (¬ (nI 2) = nI 0) (some (.inr ((x1 / (nI 2)))))) else ((f_31 tab σ x0 x2).bind fun r4 => (f_32 tab σ r4).bind fun r5 => some (.inl (((x1 + r5), (x2 + (nI 1)))))))))
noncomputable def f_45_4 (tab : px_T) (σ : px_M) (x0 : Nat) (x1 : Int32) (x2 : Int32) : Option (Int32) := lpO (fun s : Int32 × Int32 => F_45_4 tab σ x0 s.1 s.2) (x1, x2)
theorem f_45_4_eq (tab : px_T) (σ : px_M) (x0 : Nat) (x1 : Int32) (x2 : Int32) : f_45_4 tab σ x0 x1 x2 = (F_45_4 tab σ x0 x1 x2).bind (Sum.elim (fun s => f_45_4 tab σ x0 s.1 s.2) some) := lpO_eq _ _
noncomputable def f_45 (tab : px_T) (σ : px_M) (x0 : Nat) : Option (Int32) := f_45_4 tab σ x0 ((nI 0)) ((nI 0))
def kp_45_4 (Q : Nat → Int32 → Int32 → px_M → Prop) : px_P := fun ls st τ => st = [] ∧ kN ls (fun x0 ls => kI ls (fun x1 ls => kI ls (fun x2 ls => kE ls (Q x0 x1 x2 τ))))
theorem kq_45_4 {C : px_C} {k : Option px_V → px_M → Prop} {Q : Nat → Int32 → Int32 → px_M → Prop} (H : ∀ (x0 : Nat) (x1 : Int32) (x2 : Int32) (τ : px_M), Q x0 x1 x2 τ → px_W C k 4 [some (.inr (.inr (some x0))), some (.inl x1), some (.inl x2)] [] τ) : ∀ ls st τ, kp_45_4 Q ls st τ → px_W C k 4 ls st τ := by
  intro ls st τ hz
  obtain ⟨ez, h0⟩ := hz
  obtain ⟨x0, l0, e0, h1⟩ := kN_sp h0
  obtain ⟨x1, l1, e1, h2⟩ := kI_sp h1
  obtain ⟨x2, l2, e2, h3⟩ := kI_sp h2
  obtain ⟨ey, hy⟩ := kE_sp h3
  subst ez
  subst ey
  subst e2
  subst e1
  subst e0
  exact H x0 x1 x2 τ hy
set_option maxHeartbeats 4000000 in
set_option maxRecDepth 100000 in
theorem rl_45_4 {C : px_C} (hn : px_nd (px_tb C)) {h : Nat} (hh : 2 ≤ h) (hC : px_ok C pn_i45 h) {k : Option px_V → px_M → Prop} {x0 : Nat} {σ : px_M} : ∀ s : Int32 × Int32, oW (f_45_4 (px_tb C) σ x0 s.1 s.2) (fun r => k (some (.inl r)) σ) → (fun s : Int32 × Int32 => px_W C k 4 [some (.inr (.inr (some x0))), some (.inl s.1), some (.inl s.2)] [] σ) s := by
  intro s h0
  refine lpO_sound (P := (fun s : Int32 × Int32 => px_W C k 4 [some (.inr (.inr (some x0))), some (.inl s.1), some (.inl s.2)] [] σ)) (fun s hs => ?_) h0
  obtain ⟨x1, x2⟩ := s
  refine px_runG (h - 1) ck_45 [(31, Sg_31 (f_31 (px_tb C))), (32, Sg_32 (f_32 (px_tb C)))] [(4, kp_45_4 (fun y0 y1 y2 τ => y0 = x0 ∧ τ = σ ∧ (fun s : Int32 × Int32 => px_W C k 4 [some (.inr (.inr (some x0))), some (.inl s.1), some (.inl s.2)] [] σ) (y1, y2)))] 80 hC (px_sp1 (mf_31 hn (by omega)) (px_sp1 (mf_32 hn (by omega)) px_nosp)) (by omega) (px_cut1 (kq_45_4 (fun y0 y1 y2 τ hq => by obtain ⟨rfl, rfl, hq⟩ := hq; exact hq)) px_nocut) (fun G Jf hG hJf => ?_)
  replace hs : oW (F_45_4 (px_tb C) σ x0 x1 x2) _ := hs
  unfold F_45_4 at hs
  obtain ⟨hc0, hs⟩ := oW_gx hs
  obtain ⟨n1, hc1, hs⟩ := oW_bx hs
  obtain ⟨t2, l3, hc2, hs⟩ := oW_ax hs
  obtain ⟨hc3, hs⟩ := oW_gx hs
  obtain ⟨hc4, hs⟩ := oW_gx hs
  by_cases hc5 : (px_av t2 σ n1 ((nI 1)).toNatClampNeg) ≤ x2
  · replace hs := oW_t hs hc5
    obtain ⟨hc6, hs⟩ := oW_gx hs
    simp only [↓hG, ↓hJf, ↓px_vc, ↓px_ex, ↓px_jp, ↓px_gi, ↓px_gl, ↓px_gr, ↓px_s1, ↓px_s2, ↓px_nl, ↓px_i1, ↓px_l1, ↓px_r1_o, ↓px_q1, ↓px_i2, ↓px_l2, ↓px_il, ↓px_d0, ↓px_d1, ↓px_d2, ↓px_pop, px_sz, ↓px_sp, ↓px_rd, ↓px_rf, ↓pn_xf, ↓px_pt, ↓px_rok, ↓px_rv_o, ↓px_fill, ↓px_sl, ↓px_sw, ↓pn_SW, lc_lt, lc_ge, lc_gt, lc_le, lc_eq, ↓reduceIte, Nat.reduceEqDiff, Nat.reduceLeDiff, Nat.reduceAdd, Nat.reduceSub, reduceCtorEq, List.length_cons, List.length_nil, Option.toList_some, Option.toList_none, List.cons_append, List.nil_append, true_and, and_true, false_and, and_false, true_or, or_true, false_or, or_false, and_self, or_self, not_false_eq_true, not_true_eq_false, false_implies, forall_const, true_implies, eq_self, ↓kI_s, ↓kJ_s, ↓kN_s, ↓kO_s, ↓kZ_s, ↓kE_s, oW_some, px_arr_s, nI_10f, ↓bk_45, ↓pn_i45, ↓Sg_31, ↓Sg_32, ↓kp_45_4, eq_true hc0, hc1, hc2, eq_true hc3, eq_true hc4, eq_true hc5, eq_true hc6]
    rw [oW_some] at hs
    exact hs
  · replace hs := oW_f hs hc5
    obtain ⟨r4, hc6, hs⟩ := oW_bx hs
    obtain ⟨r5, hc7, hs⟩ := oW_bx hs
    simp only [↓hG, ↓hJf, ↓px_vc, ↓px_ex, ↓px_jp, ↓px_gi, ↓px_gl, ↓px_gr, ↓px_s1, ↓px_s2, ↓px_nl, ↓px_i1, ↓px_l1, ↓px_r1_o, ↓px_q1, ↓px_i2, ↓px_l2, ↓px_il, ↓px_d0, ↓px_d1, ↓px_d2, ↓px_pop, px_sz, ↓px_sp, ↓px_rd, ↓px_rf, ↓pn_xf, ↓px_pt, ↓px_rok, ↓px_rv_o, ↓px_fill, ↓px_sl, ↓px_sw, ↓pn_SW, lc_lt, lc_ge, lc_gt, lc_le, lc_eq, ↓reduceIte, Nat.reduceEqDiff, Nat.reduceLeDiff, Nat.reduceAdd, Nat.reduceSub, reduceCtorEq, List.length_cons, List.length_nil, Option.toList_some, Option.toList_none, List.cons_append, List.nil_append, true_and, and_true, false_and, and_false, true_or, or_true, false_or, or_false, and_self, or_self, not_false_eq_true, not_true_eq_false, false_implies, forall_const, true_implies, eq_self, ↓kI_s, ↓kJ_s, ↓kN_s, ↓kO_s, ↓kZ_s, ↓kE_s, oW_some, px_arr_s, nI_10f, ↓bk_45, ↓pn_i45, ↓Sg_31, ↓Sg_32, ↓kp_45_4, eq_true hc0, hc1, hc2, eq_true hc3, eq_true hc4, eq_false hc5, hc6, hc7]
    rw [oW_some] at hs
    exact hs
set_option maxHeartbeats 4000000 in
set_option maxRecDepth 100000 in
theorem mf_45 {tab : px_T} (hn : px_nd tab) {h : Nat} (hh : 2 ≤ h) : px_Ok tab pn_i45 h (Sg_45 (f_45 tab)) := by
  refine px_mth hn (by decide +kernel) (fun av σ k hS => ?_) (fun C hT hC av σ k hS => ?_)
  · obtain ⟨x0, av0, e0, h0⟩ := px_r1_spec hS
    obtain ⟨ez, hs⟩ := h0
    subst ez
    subst e0
    exact Nat.le_of_ble_eq_true rfl
  · obtain ⟨x0, av0, e0, h0⟩ := px_r1_spec hS
    obtain ⟨ez, hs⟩ := h0
    subst ez
    subst e0
    subst hT
    refine px_runG (h - 1) ck_45 [] [(4, kp_45_4 (fun y0 y1 y2 τ => τ = σ ∧ oW (f_45_4 (px_tb C) τ y0 y1 y2) (fun r => k (some (.inl r)) σ)))] 80 hC px_nosp (by omega) (px_cut1 (kq_45_4 (fun y0 y1 y2 τ hq => by obtain ⟨rfl, hq⟩ := hq; exact rl_45_4 hn (by omega) hC (y1, y2) hq)) px_nocut) (fun G Jf hG hJf => ?_)
    unfold f_45 at hs
    simp only [↓hG, ↓hJf, ↓px_vc, ↓px_ex, ↓px_jp, ↓px_gi, ↓px_gl, ↓px_gr, ↓px_s1, ↓px_s2, ↓px_nl, ↓px_i1, ↓px_l1, ↓px_r1_o, ↓px_q1, ↓px_i2, ↓px_l2, ↓px_il, ↓px_d0, ↓px_d1, ↓px_d2, ↓px_pop, px_sz, ↓px_sp, ↓px_rd, ↓px_rf, ↓pn_xf, ↓px_pt, ↓px_rok, ↓px_rv_o, ↓px_fill, ↓px_sl, ↓px_sw, ↓pn_SW, lc_lt, lc_ge, lc_gt, lc_le, lc_eq, ↓reduceIte, Nat.reduceEqDiff, Nat.reduceLeDiff, Nat.reduceAdd, Nat.reduceSub, reduceCtorEq, List.length_cons, List.length_nil, Option.toList_some, Option.toList_none, List.cons_append, List.nil_append, true_and, and_true, false_and, and_false, true_or, or_true, false_or, or_false, and_self, or_self, not_false_eq_true, not_true_eq_false, false_implies, forall_const, true_implies, eq_self, ↓kI_s, ↓kJ_s, ↓kN_s, ↓kO_s, ↓kZ_s, ↓kE_s, oW_some, px_arr_s, nI_10f, ↓bk_45, ↓pn_i45, ↓kp_45_4]
    exact hs
def Sg_46 (g : px_M → Nat → Int32 → Int32 → Option (Int32 × px_M)) : px_S := fun av σ k => px_r1 av (fun x0 av => px_i1 av (fun x1 av => px_i1 av (fun x2 av => av = [] ∧ oW (g σ x0 x1 x2) (fun q => k (some (.inl q.1)) q.2))))
/-- NoThreeModel.wordOf(II)I -/
noncomputable def f_46_143 (tab : px_T) (σ : px_M) : Option (Int32 × px_M) := some (((nI 1), σ))
noncomputable def f_46_139 (tab : px_T) (σ : px_M) : Option (Int32 × px_M) := some (((nI 0), σ))
noncomputable def f_46 (tab : px_T) (σ : px_M) (x0 : Nat) (x1 : Int32) (x2 : Int32) : Option (Int32 × px_M) := if x1 = nI 1000 then (gd (px_obj (px_lay tab x0) 0) ((f_31 tab σ x0 x2).bind fun r1 => (f_32 tab σ r1).bind fun r2 => some ((r2, σ)))) else (if x1 = nI 1001 then (gd (px_obj (px_lay tab x0) 0) ((f_33 tab σ x0 x2).bind fun r3 => some ((r3, σ)))) else (if x1 = nI 1002 then (gd (px_obj (px_lay tab x0) 0) ((f_34 tab σ x0 x2).bind fun r4 => some ((r4, σ)))) else (if x1 = nI 1003 then (gd (px_obj (px_lay tab x0) 0) ((f_35 tab σ x0 x2).bind fun q5 => some ((q5.1, q5.2)))) else (if x1 = nI 1004 then (gd (px_obj (px_lay tab x0) 0) ((f_45 tab σ x0).bind fun r6 => some ((r6, σ)))) else (if x1 = nI 1005 then (gd (px_obj (px_lay tab x0) 0) ((f_41 tab σ x0 ((nI 0))).bind fun r7 => (f_32 tab σ r7).bind fun r8 => some ((r8, σ)))) else (if x1 = nI 1006 then (gd (px_obj (px_lay tab x0) 0) ((f_43 tab σ x0 ((-1))).bind fun q9 => some ((q9.1, q9.2)))) else (if x1 = nI 1007 then (gd (px_obj (px_lay tab x0) 0) ((f_44 tab σ x0).bind fun q10 => bn (q10.1 = (-1)) (f_46_143 tab q10.2) (f_46_139 tab q10.2))) else (if x1 = nI 1100 then (gd (px_obj (px_lay tab x0) 0) ((((σ).2.2 x0 1)).bind fun n11 => oA (px_lay tab n11) fun t12 l13 => gd (t12 = 0 ∨ t12 = 11) (gd (vp_in (nI 1) l13) (some (((px_av t12 σ n11 ((nI 1)).toNatClampNeg), σ)))))) else (some ((x1, σ)))))))))))
def kp_46_143 (Q : px_M → Prop) : px_P := fun ls st τ => st = [] ∧ kZ ls (fun ls => kZ ls (fun ls => kZ ls (fun ls => kE ls (Q τ))))
theorem kq_46_143 {C : px_C} {k : Option px_V → px_M → Prop} {Q : px_M → Prop} (H : ∀ (τ : px_M), Q τ → ∀ (z0 : Option px_V) (z1 : Option px_V) (z2 : Option px_V), px_W C k 143 [z0, z1, z2] [] τ) : ∀ ls st τ, kp_46_143 Q ls st τ → px_W C k 143 ls st τ := by
  intro ls st τ hz
  obtain ⟨ez, h0⟩ := hz
  obtain ⟨z0, l0, e0, h1⟩ := kZ_sp h0
  obtain ⟨z1, l1, e1, h2⟩ := kZ_sp h1
  obtain ⟨z2, l2, e2, h3⟩ := kZ_sp h2
  obtain ⟨ey, hy⟩ := kE_sp h3
  subst ez
  subst ey
  subst e2
  subst e1
  subst e0
  exact H τ hy z0 z1 z2
def kp_46_139 (Q : px_M → Prop) : px_P := fun ls st τ => st = [] ∧ kZ ls (fun ls => kZ ls (fun ls => kZ ls (fun ls => kE ls (Q τ))))
theorem kq_46_139 {C : px_C} {k : Option px_V → px_M → Prop} {Q : px_M → Prop} (H : ∀ (τ : px_M), Q τ → ∀ (z0 : Option px_V) (z1 : Option px_V) (z2 : Option px_V), px_W C k 139 [z0, z1, z2] [] τ) : ∀ ls st τ, kp_46_139 Q ls st τ → px_W C k 139 ls st τ := by
  intro ls st τ hz
  obtain ⟨ez, h0⟩ := hz
  obtain ⟨z0, l0, e0, h1⟩ := kZ_sp h0
  obtain ⟨z1, l1, e1, h2⟩ := kZ_sp h1
  obtain ⟨z2, l2, e2, h3⟩ := kZ_sp h2
  obtain ⟨ey, hy⟩ := kE_sp h3
  subst ez
  subst ey
  subst e2
  subst e1
  subst e0
  exact H τ hy z0 z1 z2
set_option maxHeartbeats 4000000 in
set_option maxRecDepth 100000 in
theorem rl_46_143 {C : px_C} (hn : px_nd (px_tb C)) {h : Nat} (hh : 28 ≤ h) (hC : px_ok C pn_i46 h) {k : Option px_V → px_M → Prop} {σ : px_M} (hs : oW (f_46_143 (px_tb C) σ) (fun q => k (some (.inl q.1)) q.2)) : ∀ (z0 : Option px_V) (z1 : Option px_V) (z2 : Option px_V), px_W C k 143 [z0, z1, z2] [] σ := by
  intro z0 z1 z2
  refine px_runG (h - 1) ck_46 [] [] 80 hC px_nosp (by omega) px_nocut (fun G Jf hG hJf => ?_)
  unfold f_46_143 at hs
  simp only [↓hG, ↓hJf, ↓px_vc, ↓px_ex, ↓px_jp, ↓px_gi, ↓px_gl, ↓px_gr, ↓px_s1, ↓px_s2, ↓px_nl, ↓px_i1, ↓px_l1, ↓px_r1_o, ↓px_q1, ↓px_i2, ↓px_l2, ↓px_il, ↓px_d0, ↓px_d1, ↓px_d2, ↓px_pop, px_sz, ↓px_sp, ↓px_rd, ↓px_rf, ↓pn_xf, ↓px_pt, ↓px_rok, ↓px_rv_o, ↓px_fill, ↓px_sl, ↓px_sw, ↓pn_SW, lc_lt, lc_ge, lc_gt, lc_le, lc_eq, ↓reduceIte, Nat.reduceEqDiff, Nat.reduceLeDiff, Nat.reduceAdd, Nat.reduceSub, reduceCtorEq, List.length_cons, List.length_nil, Option.toList_some, Option.toList_none, List.cons_append, List.nil_append, true_and, and_true, false_and, and_false, true_or, or_true, false_or, or_false, and_self, or_self, not_false_eq_true, not_true_eq_false, false_implies, forall_const, true_implies, eq_self, ↓kI_s, ↓kJ_s, ↓kN_s, ↓kO_s, ↓kZ_s, ↓kE_s, oW_some, px_arr_s, nI_10f, ↓bk_46, ↓pn_i46]
  rw [oW_some] at hs
  exact hs
set_option maxHeartbeats 4000000 in
set_option maxRecDepth 100000 in
theorem rl_46_139 {C : px_C} (hn : px_nd (px_tb C)) {h : Nat} (hh : 28 ≤ h) (hC : px_ok C pn_i46 h) {k : Option px_V → px_M → Prop} {σ : px_M} (hs : oW (f_46_139 (px_tb C) σ) (fun q => k (some (.inl q.1)) q.2)) : ∀ (z0 : Option px_V) (z1 : Option px_V) (z2 : Option px_V), px_W C k 139 [z0, z1, z2] [] σ := by
  intro z0 z1 z2
  refine px_runG (h - 1) ck_46 [] [] 80 hC px_nosp (by omega) px_nocut (fun G Jf hG hJf => ?_)
  unfold f_46_139 at hs
  simp only [↓hG, ↓hJf, ↓px_vc, ↓px_ex, ↓px_jp, ↓px_gi, ↓px_gl, ↓px_gr, ↓px_s1, ↓px_s2, ↓px_nl, ↓px_i1, ↓px_l1, ↓px_r1_o, ↓px_q1, ↓px_i2, ↓px_l2, ↓px_il, ↓px_d0, ↓px_d1, ↓px_d2, ↓px_pop, px_sz, ↓px_sp, ↓px_rd, ↓px_rf, ↓pn_xf, ↓px_pt, ↓px_rok, ↓px_rv_o, ↓px_fill, ↓px_sl, ↓px_sw, ↓pn_SW, lc_lt, lc_ge, lc_gt, lc_le, lc_eq, ↓reduceIte, Nat.reduceEqDiff, Nat.reduceLeDiff, Nat.reduceAdd, Nat.reduceSub, reduceCtorEq, List.length_cons, List.length_nil, Option.toList_some, Option.toList_none, List.cons_append, List.nil_append, true_and, and_true, false_and, and_false, true_or, or_true, false_or, or_false, and_self, or_self, not_false_eq_true, not_true_eq_false, false_implies, forall_const, true_implies, eq_self, ↓kI_s, ↓kJ_s, ↓kN_s, ↓kO_s, ↓kZ_s, ↓kE_s, oW_some, px_arr_s, nI_10f, ↓bk_46, ↓pn_i46]
  rw [oW_some] at hs
  exact hs
set_option maxHeartbeats 4000000 in
set_option maxRecDepth 100000 in
theorem mf_46 {tab : px_T} (hn : px_nd tab) {h : Nat} (hh : 28 ≤ h) : px_Ok tab pn_i46 h (Sg_46 (f_46 tab)) := by
  refine px_mth hn (by decide +kernel) (fun av σ k hS => ?_) (fun C hT hC av σ k hS => ?_)
  · obtain ⟨x0, av0, e0, h0⟩ := px_r1_spec hS
    obtain ⟨x1, av1, e1, h1⟩ := px_i1_spec h0
    obtain ⟨x2, av2, e2, h2⟩ := px_i1_spec h1
    obtain ⟨ez, hs⟩ := h2
    subst ez
    subst e2
    subst e1
    subst e0
    exact Nat.le_of_ble_eq_true rfl
  · obtain ⟨x0, av0, e0, h0⟩ := px_r1_spec hS
    obtain ⟨x1, av1, e1, h1⟩ := px_i1_spec h0
    obtain ⟨x2, av2, e2, h2⟩ := px_i1_spec h1
    obtain ⟨ez, hs⟩ := h2
    subst ez
    subst e2
    subst e1
    subst e0
    subst hT
    refine px_runG (h - 1) ck_46 [(31, Sg_31 (f_31 (px_tb C))), (32, Sg_32 (f_32 (px_tb C))), (33, Sg_33 (f_33 (px_tb C))), (34, Sg_34 (f_34 (px_tb C))), (35, Sg_35 (f_35 (px_tb C))), (41, Sg_41 (f_41 (px_tb C))), (43, Sg_43 (f_43 (px_tb C))), (44, Sg_44 (f_44 (px_tb C))), (45, Sg_45 (f_45 (px_tb C)))] [(139, kp_46_139 (fun τ => oW (f_46_139 (px_tb C) τ) (fun q => k (some (.inl q.1)) q.2))), (143, kp_46_143 (fun τ => oW (f_46_143 (px_tb C) τ) (fun q => k (some (.inl q.1)) q.2)))] 80 hC (px_sp1 (mf_31 hn (by omega)) (px_sp1 (mf_32 hn (by omega)) (px_sp1 (mf_33 hn (by omega)) (px_sp1 (mf_34 hn (by omega)) (px_sp1 (mf_35 hn (by omega)) (px_sp1 (mf_41 hn (by omega)) (px_sp1 (mf_43 hn (by omega)) (px_sp1 (mf_44 hn (by omega)) (px_sp1 (mf_45 hn (by omega)) px_nosp))))))))) (by omega) (px_cut1 (kq_46_139 (fun τ hq => by exact rl_46_139 hn (by omega) hC  hq)) (px_cut1 (kq_46_143 (fun τ hq => by exact rl_46_143 hn (by omega) hC  hq)) px_nocut)) (fun G Jf hG hJf => ?_)
    unfold f_46 at hs
    by_cases hc0 : x1 = nI 1000
    · replace hs := oW_t hs hc0
      obtain ⟨hc1, hs⟩ := oW_gx hs
      obtain ⟨r1, hc2, hs⟩ := oW_bx hs
      obtain ⟨r2, hc3, hs⟩ := oW_bx hs
      simp only [↓hG, ↓hJf, ↓px_vc, ↓px_ex, ↓px_jp, ↓px_gi, ↓px_gl, ↓px_gr, ↓px_s1, ↓px_s2, ↓px_nl, ↓px_i1, ↓px_l1, ↓px_r1_o, ↓px_q1, ↓px_i2, ↓px_l2, ↓px_il, ↓px_d0, ↓px_d1, ↓px_d2, ↓px_pop, px_sz, ↓px_sp, ↓px_rd, ↓px_rf, ↓pn_xf, ↓px_pt, ↓px_rok, ↓px_rv_o, ↓px_fill, ↓px_sl, ↓px_sw, ↓pn_SW, lc_lt, lc_ge, lc_gt, lc_le, lc_eq, ↓reduceIte, Nat.reduceEqDiff, Nat.reduceLeDiff, Nat.reduceAdd, Nat.reduceSub, reduceCtorEq, List.length_cons, List.length_nil, Option.toList_some, Option.toList_none, List.cons_append, List.nil_append, true_and, and_true, false_and, and_false, true_or, or_true, false_or, or_false, and_self, or_self, not_false_eq_true, not_true_eq_false, false_implies, forall_const, true_implies, eq_self, ↓kI_s, ↓kJ_s, ↓kN_s, ↓kO_s, ↓kZ_s, ↓kE_s, oW_some, px_arr_s, nI_10f, ↓bk_46, ↓pn_i46, ↓Sg_31, ↓Sg_32, ↓Sg_33, ↓Sg_34, ↓Sg_35, ↓Sg_41, ↓Sg_43, ↓Sg_44, ↓Sg_45, ↓kp_46_139, ↓kp_46_143, eq_true hc0, eq_true hc1, hc2, hc3]
      rw [oW_some] at hs
      exact hs
    · replace hs := oW_f hs hc0
      by_cases hc1 : x1 = nI 1001
      · replace hs := oW_t hs hc1
        obtain ⟨hc2, hs⟩ := oW_gx hs
        obtain ⟨r3, hc3, hs⟩ := oW_bx hs
        simp only [↓hG, ↓hJf, ↓px_vc, ↓px_ex, ↓px_jp, ↓px_gi, ↓px_gl, ↓px_gr, ↓px_s1, ↓px_s2, ↓px_nl, ↓px_i1, ↓px_l1, ↓px_r1_o, ↓px_q1, ↓px_i2, ↓px_l2, ↓px_il, ↓px_d0, ↓px_d1, ↓px_d2, ↓px_pop, px_sz, ↓px_sp, ↓px_rd, ↓px_rf, ↓pn_xf, ↓px_pt, ↓px_rok, ↓px_rv_o, ↓px_fill, ↓px_sl, ↓px_sw, ↓pn_SW, lc_lt, lc_ge, lc_gt, lc_le, lc_eq, ↓reduceIte, Nat.reduceEqDiff, Nat.reduceLeDiff, Nat.reduceAdd, Nat.reduceSub, reduceCtorEq, List.length_cons, List.length_nil, Option.toList_some, Option.toList_none, List.cons_append, List.nil_append, true_and, and_true, false_and, and_false, true_or, or_true, false_or, or_false, and_self, or_self, not_false_eq_true, not_true_eq_false, false_implies, forall_const, true_implies, eq_self, ↓kI_s, ↓kJ_s, ↓kN_s, ↓kO_s, ↓kZ_s, ↓kE_s, oW_some, px_arr_s, nI_10f, ↓bk_46, ↓pn_i46, ↓Sg_31, ↓Sg_32, ↓Sg_33, ↓Sg_34, ↓Sg_35, ↓Sg_41, ↓Sg_43, ↓Sg_44, ↓Sg_45, ↓kp_46_139, ↓kp_46_143, eq_false hc0, eq_true hc1, eq_true hc2, hc3]
        rw [oW_some] at hs
        exact hs
      · replace hs := oW_f hs hc1
        by_cases hc2 : x1 = nI 1002
        · replace hs := oW_t hs hc2
          obtain ⟨hc3, hs⟩ := oW_gx hs
          obtain ⟨r4, hc4, hs⟩ := oW_bx hs
          simp only [↓hG, ↓hJf, ↓px_vc, ↓px_ex, ↓px_jp, ↓px_gi, ↓px_gl, ↓px_gr, ↓px_s1, ↓px_s2, ↓px_nl, ↓px_i1, ↓px_l1, ↓px_r1_o, ↓px_q1, ↓px_i2, ↓px_l2, ↓px_il, ↓px_d0, ↓px_d1, ↓px_d2, ↓px_pop, px_sz, ↓px_sp, ↓px_rd, ↓px_rf, ↓pn_xf, ↓px_pt, ↓px_rok, ↓px_rv_o, ↓px_fill, ↓px_sl, ↓px_sw, ↓pn_SW, lc_lt, lc_ge, lc_gt, lc_le, lc_eq, ↓reduceIte, Nat.reduceEqDiff, Nat.reduceLeDiff, Nat.reduceAdd, Nat.reduceSub, reduceCtorEq, List.length_cons, List.length_nil, Option.toList_some, Option.toList_none, List.cons_append, List.nil_append, true_and, and_true, false_and, and_false, true_or, or_true, false_or, or_false, and_self, or_self, not_false_eq_true, not_true_eq_false, false_implies, forall_const, true_implies, eq_self, ↓kI_s, ↓kJ_s, ↓kN_s, ↓kO_s, ↓kZ_s, ↓kE_s, oW_some, px_arr_s, nI_10f, ↓bk_46, ↓pn_i46, ↓Sg_31, ↓Sg_32, ↓Sg_33, ↓Sg_34, ↓Sg_35, ↓Sg_41, ↓Sg_43, ↓Sg_44, ↓Sg_45, ↓kp_46_139, ↓kp_46_143, eq_false hc0, eq_false hc1, eq_true hc2, eq_true hc3, hc4]
          rw [oW_some] at hs
          exact hs
        · replace hs := oW_f hs hc2
          by_cases hc3 : x1 = nI 1003
          · replace hs := oW_t hs hc3
            obtain ⟨hc4, hs⟩ := oW_gx hs
            obtain ⟨q5, hc5, hs⟩ := oW_bx hs
            simp only [↓hG, ↓hJf, ↓px_vc, ↓px_ex, ↓px_jp, ↓px_gi, ↓px_gl, ↓px_gr, ↓px_s1, ↓px_s2, ↓px_nl, ↓px_i1, ↓px_l1, ↓px_r1_o, ↓px_q1, ↓px_i2, ↓px_l2, ↓px_il, ↓px_d0, ↓px_d1, ↓px_d2, ↓px_pop, px_sz, ↓px_sp, ↓px_rd, ↓px_rf, ↓pn_xf, ↓px_pt, ↓px_rok, ↓px_rv_o, ↓px_fill, ↓px_sl, ↓px_sw, ↓pn_SW, lc_lt, lc_ge, lc_gt, lc_le, lc_eq, ↓reduceIte, Nat.reduceEqDiff, Nat.reduceLeDiff, Nat.reduceAdd, Nat.reduceSub, reduceCtorEq, List.length_cons, List.length_nil, Option.toList_some, Option.toList_none, List.cons_append, List.nil_append, true_and, and_true, false_and, and_false, true_or, or_true, false_or, or_false, and_self, or_self, not_false_eq_true, not_true_eq_false, false_implies, forall_const, true_implies, eq_self, ↓kI_s, ↓kJ_s, ↓kN_s, ↓kO_s, ↓kZ_s, ↓kE_s, oW_some, px_arr_s, nI_10f, ↓bk_46, ↓pn_i46, ↓Sg_31, ↓Sg_32, ↓Sg_33, ↓Sg_34, ↓Sg_35, ↓Sg_41, ↓Sg_43, ↓Sg_44, ↓Sg_45, ↓kp_46_139, ↓kp_46_143, eq_false hc0, eq_false hc1, eq_false hc2, eq_true hc3, eq_true hc4, hc5]
            rw [oW_some] at hs
            exact hs
          · replace hs := oW_f hs hc3
            by_cases hc4 : x1 = nI 1004
            · replace hs := oW_t hs hc4
              obtain ⟨hc5, hs⟩ := oW_gx hs
              obtain ⟨r6, hc6, hs⟩ := oW_bx hs
              simp only [↓hG, ↓hJf, ↓px_vc, ↓px_ex, ↓px_jp, ↓px_gi, ↓px_gl, ↓px_gr, ↓px_s1, ↓px_s2, ↓px_nl, ↓px_i1, ↓px_l1, ↓px_r1_o, ↓px_q1, ↓px_i2, ↓px_l2, ↓px_il, ↓px_d0, ↓px_d1, ↓px_d2, ↓px_pop, px_sz, ↓px_sp, ↓px_rd, ↓px_rf, ↓pn_xf, ↓px_pt, ↓px_rok, ↓px_rv_o, ↓px_fill, ↓px_sl, ↓px_sw, ↓pn_SW, lc_lt, lc_ge, lc_gt, lc_le, lc_eq, ↓reduceIte, Nat.reduceEqDiff, Nat.reduceLeDiff, Nat.reduceAdd, Nat.reduceSub, reduceCtorEq, List.length_cons, List.length_nil, Option.toList_some, Option.toList_none, List.cons_append, List.nil_append, true_and, and_true, false_and, and_false, true_or, or_true, false_or, or_false, and_self, or_self, not_false_eq_true, not_true_eq_false, false_implies, forall_const, true_implies, eq_self, ↓kI_s, ↓kJ_s, ↓kN_s, ↓kO_s, ↓kZ_s, ↓kE_s, oW_some, px_arr_s, nI_10f, ↓bk_46, ↓pn_i46, ↓Sg_31, ↓Sg_32, ↓Sg_33, ↓Sg_34, ↓Sg_35, ↓Sg_41, ↓Sg_43, ↓Sg_44, ↓Sg_45, ↓kp_46_139, ↓kp_46_143, eq_false hc0, eq_false hc1, eq_false hc2, eq_false hc3, eq_true hc4, eq_true hc5, hc6]
              rw [oW_some] at hs
              exact hs
            · replace hs := oW_f hs hc4
              by_cases hc5 : x1 = nI 1005
              · replace hs := oW_t hs hc5
                obtain ⟨hc6, hs⟩ := oW_gx hs
                obtain ⟨r7, hc7, hs⟩ := oW_bx hs
                obtain ⟨r8, hc8, hs⟩ := oW_bx hs
                simp only [↓hG, ↓hJf, ↓px_vc, ↓px_ex, ↓px_jp, ↓px_gi, ↓px_gl, ↓px_gr, ↓px_s1, ↓px_s2, ↓px_nl, ↓px_i1, ↓px_l1, ↓px_r1_o, ↓px_q1, ↓px_i2, ↓px_l2, ↓px_il, ↓px_d0, ↓px_d1, ↓px_d2, ↓px_pop, px_sz, ↓px_sp, ↓px_rd, ↓px_rf, ↓pn_xf, ↓px_pt, ↓px_rok, ↓px_rv_o, ↓px_fill, ↓px_sl, ↓px_sw, ↓pn_SW, lc_lt, lc_ge, lc_gt, lc_le, lc_eq, ↓reduceIte, Nat.reduceEqDiff, Nat.reduceLeDiff, Nat.reduceAdd, Nat.reduceSub, reduceCtorEq, List.length_cons, List.length_nil, Option.toList_some, Option.toList_none, List.cons_append, List.nil_append, true_and, and_true, false_and, and_false, true_or, or_true, false_or, or_false, and_self, or_self, not_false_eq_true, not_true_eq_false, false_implies, forall_const, true_implies, eq_self, ↓kI_s, ↓kJ_s, ↓kN_s, ↓kO_s, ↓kZ_s, ↓kE_s, oW_some, px_arr_s, nI_10f, ↓bk_46, ↓pn_i46, ↓Sg_31, ↓Sg_32, ↓Sg_33, ↓Sg_34, ↓Sg_35, ↓Sg_41, ↓Sg_43, ↓Sg_44, ↓Sg_45, ↓kp_46_139, ↓kp_46_143, eq_false hc0, eq_false hc1, eq_false hc2, eq_false hc3, eq_false hc4, eq_true hc5, eq_true hc6, hc7, hc8]
                rw [oW_some] at hs
                exact hs
              · replace hs := oW_f hs hc5
                by_cases hc6 : x1 = nI 1006
                · replace hs := oW_t hs hc6
                  obtain ⟨hc7, hs⟩ := oW_gx hs
                  obtain ⟨q9, hc8, hs⟩ := oW_bx hs
                  simp only [↓hG, ↓hJf, ↓px_vc, ↓px_ex, ↓px_jp, ↓px_gi, ↓px_gl, ↓px_gr, ↓px_s1, ↓px_s2, ↓px_nl, ↓px_i1, ↓px_l1, ↓px_r1_o, ↓px_q1, ↓px_i2, ↓px_l2, ↓px_il, ↓px_d0, ↓px_d1, ↓px_d2, ↓px_pop, px_sz, ↓px_sp, ↓px_rd, ↓px_rf, ↓pn_xf, ↓px_pt, ↓px_rok, ↓px_rv_o, ↓px_fill, ↓px_sl, ↓px_sw, ↓pn_SW, lc_lt, lc_ge, lc_gt, lc_le, lc_eq, ↓reduceIte, Nat.reduceEqDiff, Nat.reduceLeDiff, Nat.reduceAdd, Nat.reduceSub, reduceCtorEq, List.length_cons, List.length_nil, Option.toList_some, Option.toList_none, List.cons_append, List.nil_append, true_and, and_true, false_and, and_false, true_or, or_true, false_or, or_false, and_self, or_self, not_false_eq_true, not_true_eq_false, false_implies, forall_const, true_implies, eq_self, ↓kI_s, ↓kJ_s, ↓kN_s, ↓kO_s, ↓kZ_s, ↓kE_s, oW_some, px_arr_s, nI_10f, ↓bk_46, ↓pn_i46, ↓Sg_31, ↓Sg_32, ↓Sg_33, ↓Sg_34, ↓Sg_35, ↓Sg_41, ↓Sg_43, ↓Sg_44, ↓Sg_45, ↓kp_46_139, ↓kp_46_143, eq_false hc0, eq_false hc1, eq_false hc2, eq_false hc3, eq_false hc4, eq_false hc5, eq_true hc6, eq_true hc7, hc8]
                  rw [oW_some] at hs
                  exact hs
                · replace hs := oW_f hs hc6
                  by_cases hc7 : x1 = nI 1007
                  · replace hs := oW_t hs hc7
                    obtain ⟨hc8, hs⟩ := oW_gx hs
                    obtain ⟨q10, hc9, hs⟩ := oW_bx hs
                    by_cases hc10 : q10.1 = (-1)
                    · replace hs := bW_t hs hc10
                      simp only [↓hG, ↓hJf, ↓px_vc, ↓px_ex, ↓px_jp, ↓px_gi, ↓px_gl, ↓px_gr, ↓px_s1, ↓px_s2, ↓px_nl, ↓px_i1, ↓px_l1, ↓px_r1_o, ↓px_q1, ↓px_i2, ↓px_l2, ↓px_il, ↓px_d0, ↓px_d1, ↓px_d2, ↓px_pop, px_sz, ↓px_sp, ↓px_rd, ↓px_rf, ↓pn_xf, ↓px_pt, ↓px_rok, ↓px_rv_o, ↓px_fill, ↓px_sl, ↓px_sw, ↓pn_SW, lc_lt, lc_ge, lc_gt, lc_le, lc_eq, ↓reduceIte, Nat.reduceEqDiff, Nat.reduceLeDiff, Nat.reduceAdd, Nat.reduceSub, reduceCtorEq, List.length_cons, List.length_nil, Option.toList_some, Option.toList_none, List.cons_append, List.nil_append, true_and, and_true, false_and, and_false, true_or, or_true, false_or, or_false, and_self, or_self, not_false_eq_true, not_true_eq_false, false_implies, forall_const, true_implies, eq_self, ↓kI_s, ↓kJ_s, ↓kN_s, ↓kO_s, ↓kZ_s, ↓kE_s, oW_some, px_arr_s, nI_10f, ↓bk_46, ↓pn_i46, ↓Sg_31, ↓Sg_32, ↓Sg_33, ↓Sg_34, ↓Sg_35, ↓Sg_41, ↓Sg_43, ↓Sg_44, ↓Sg_45, ↓kp_46_139, ↓kp_46_143, eq_false hc0, eq_false hc1, eq_false hc2, eq_false hc3, eq_false hc4, eq_false hc5, eq_false hc6, eq_true hc7, eq_true hc8, hc9, eq_true hc10]
                      exact hs
                    · replace hs := bW_f hs hc10
                      simp only [↓hG, ↓hJf, ↓px_vc, ↓px_ex, ↓px_jp, ↓px_gi, ↓px_gl, ↓px_gr, ↓px_s1, ↓px_s2, ↓px_nl, ↓px_i1, ↓px_l1, ↓px_r1_o, ↓px_q1, ↓px_i2, ↓px_l2, ↓px_il, ↓px_d0, ↓px_d1, ↓px_d2, ↓px_pop, px_sz, ↓px_sp, ↓px_rd, ↓px_rf, ↓pn_xf, ↓px_pt, ↓px_rok, ↓px_rv_o, ↓px_fill, ↓px_sl, ↓px_sw, ↓pn_SW, lc_lt, lc_ge, lc_gt, lc_le, lc_eq, ↓reduceIte, Nat.reduceEqDiff, Nat.reduceLeDiff, Nat.reduceAdd, Nat.reduceSub, reduceCtorEq, List.length_cons, List.length_nil, Option.toList_some, Option.toList_none, List.cons_append, List.nil_append, true_and, and_true, false_and, and_false, true_or, or_true, false_or, or_false, and_self, or_self, not_false_eq_true, not_true_eq_false, false_implies, forall_const, true_implies, eq_self, ↓kI_s, ↓kJ_s, ↓kN_s, ↓kO_s, ↓kZ_s, ↓kE_s, oW_some, px_arr_s, nI_10f, ↓bk_46, ↓pn_i46, ↓Sg_31, ↓Sg_32, ↓Sg_33, ↓Sg_34, ↓Sg_35, ↓Sg_41, ↓Sg_43, ↓Sg_44, ↓Sg_45, ↓kp_46_139, ↓kp_46_143, eq_false hc0, eq_false hc1, eq_false hc2, eq_false hc3, eq_false hc4, eq_false hc5, eq_false hc6, eq_true hc7, eq_true hc8, hc9, eq_false hc10]
                      exact hs
                  · replace hs := oW_f hs hc7
                    by_cases hc8 : x1 = nI 1100
                    · replace hs := oW_t hs hc8
                      obtain ⟨hc9, hs⟩ := oW_gx hs
                      obtain ⟨n11, hc10, hs⟩ := oW_bx hs
                      obtain ⟨t12, l13, hc11, hs⟩ := oW_ax hs
                      obtain ⟨hc12, hs⟩ := oW_gx hs
                      obtain ⟨hc13, hs⟩ := oW_gx hs
                      simp only [↓hG, ↓hJf, ↓px_vc, ↓px_ex, ↓px_jp, ↓px_gi, ↓px_gl, ↓px_gr, ↓px_s1, ↓px_s2, ↓px_nl, ↓px_i1, ↓px_l1, ↓px_r1_o, ↓px_q1, ↓px_i2, ↓px_l2, ↓px_il, ↓px_d0, ↓px_d1, ↓px_d2, ↓px_pop, px_sz, ↓px_sp, ↓px_rd, ↓px_rf, ↓pn_xf, ↓px_pt, ↓px_rok, ↓px_rv_o, ↓px_fill, ↓px_sl, ↓px_sw, ↓pn_SW, lc_lt, lc_ge, lc_gt, lc_le, lc_eq, ↓reduceIte, Nat.reduceEqDiff, Nat.reduceLeDiff, Nat.reduceAdd, Nat.reduceSub, reduceCtorEq, List.length_cons, List.length_nil, Option.toList_some, Option.toList_none, List.cons_append, List.nil_append, true_and, and_true, false_and, and_false, true_or, or_true, false_or, or_false, and_self, or_self, not_false_eq_true, not_true_eq_false, false_implies, forall_const, true_implies, eq_self, ↓kI_s, ↓kJ_s, ↓kN_s, ↓kO_s, ↓kZ_s, ↓kE_s, oW_some, px_arr_s, nI_10f, ↓bk_46, ↓pn_i46, ↓Sg_31, ↓Sg_32, ↓Sg_33, ↓Sg_34, ↓Sg_35, ↓Sg_41, ↓Sg_43, ↓Sg_44, ↓Sg_45, ↓kp_46_139, ↓kp_46_143, eq_false hc0, eq_false hc1, eq_false hc2, eq_false hc3, eq_false hc4, eq_false hc5, eq_false hc6, eq_false hc7, eq_true hc8, eq_true hc9, hc10, hc11, eq_true hc12, eq_true hc13]
                      rw [oW_some] at hs
                      exact hs
                    · replace hs := oW_f hs hc8
                      simp only [↓hG, ↓hJf, ↓px_vc, ↓px_ex, ↓px_jp, ↓px_gi, ↓px_gl, ↓px_gr, ↓px_s1, ↓px_s2, ↓px_nl, ↓px_i1, ↓px_l1, ↓px_r1_o, ↓px_q1, ↓px_i2, ↓px_l2, ↓px_il, ↓px_d0, ↓px_d1, ↓px_d2, ↓px_pop, px_sz, ↓px_sp, ↓px_rd, ↓px_rf, ↓pn_xf, ↓px_pt, ↓px_rok, ↓px_rv_o, ↓px_fill, ↓px_sl, ↓px_sw, ↓pn_SW, lc_lt, lc_ge, lc_gt, lc_le, lc_eq, ↓reduceIte, Nat.reduceEqDiff, Nat.reduceLeDiff, Nat.reduceAdd, Nat.reduceSub, reduceCtorEq, List.length_cons, List.length_nil, Option.toList_some, Option.toList_none, List.cons_append, List.nil_append, true_and, and_true, false_and, and_false, true_or, or_true, false_or, or_false, and_self, or_self, not_false_eq_true, not_true_eq_false, false_implies, forall_const, true_implies, eq_self, ↓kI_s, ↓kJ_s, ↓kN_s, ↓kO_s, ↓kZ_s, ↓kE_s, oW_some, px_arr_s, nI_10f, ↓bk_46, ↓pn_i46, ↓Sg_31, ↓Sg_32, ↓Sg_33, ↓Sg_34, ↓Sg_35, ↓Sg_41, ↓Sg_43, ↓Sg_44, ↓Sg_45, ↓kp_46_139, ↓kp_46_143, eq_false hc0, eq_false hc1, eq_false hc2, eq_false hc3, eq_false hc4, eq_false hc5, eq_false hc6, eq_false hc7, eq_false hc8]
                      rw [oW_some] at hs
                      exact hs
def Sg_47 (g : px_M → Int32 → Int32 → Int32 → Option (Int32)) : px_S := fun av σ k => px_i1 av (fun x0 av => px_i1 av (fun x1 av => px_i1 av (fun x2 av => av = [] ∧ oW (g σ x0 x1 x2) (fun r => k (some (.inl r)) σ))))
/-- NoThreeModel.between(III)I -/
noncomputable def f_47_168 (tab : px_T) (σ : px_M) (x3 : Int32) : Option (Int32) := if x3 = nI 0 then (some ((nI 0))) else (some ((nI 1)))
noncomputable def f_47_134 (tab : px_T) (σ : px_M) (x0 : Int32) (x1 : Int32) (x2 : Int32) : Option (Int32) := bn (x0 = (nI 3006)) (if (x1 + x2) ≤ nI 0 then (f_47_168 tab σ ((nI 0))) else (f_47_168 tab σ ((nI 1)))) (bn ((x1 + x2) = (nI 2)) (f_47_168 tab σ ((nI 0))) (f_47_168 tab σ ((nI 1))))
noncomputable def f_47_121 (tab : px_T) (σ : px_M) (x1 : Int32) (x2 : Int32) : Option (Int32) := if x1 ≤ x2 then (f_47_168 tab σ ((nI 0))) else (f_47_168 tab σ ((nI 1)))
noncomputable def f_47_110 (tab : px_T) (σ : px_M) : Option (Int32) := f_47_168 tab σ ((nI 0))
noncomputable def f_47_106 (tab : px_T) (σ : px_M) : Option (Int32) := f_47_168 tab σ ((nI 1))
noncomputable def f_47_43 (tab : px_T) (σ : px_M) (x3 : Int64) : Option (Int32) := if x3 ≤ (lN 1000000) then (if (-1000000) ≤ x3 then (some ((x3).toInt32)) else (some (((-1000000)).toInt32))) else (some (((lN 1000000)).toInt32))
noncomputable def f_47 (tab : px_T) (σ : px_M) (x0 : Int32) (x1 : Int32) (x2 : Int32) : Option (Int32) := if (nI 3002) < x0 then (bn (x0 = (nI 3003)) (bn (x0 = (nI 3004)) (bn (x0 = (nI 3005)) (f_47_134 tab σ x0 x1 x2) (f_47_121 tab σ x1 x2)) (if x2 ≤ x1 then (f_47_110 tab σ) else (f_47_106 tab σ))) (bn (x1 = x2) (f_47_168 tab σ ((nI 0))) (f_47_168 tab σ ((nI 1))))) else (bn (x0 = (nI 3000)) (bn (x0 = (nI 3001)) (f_47_43 tab σ (((x1).toInt64 * (x2).toInt64))) (f_47_43 tab σ (((x1).toInt64 - (x2).toInt64)))) (f_47_43 tab σ (((x1).toInt64 + (x2).toInt64))))
def kp_47_168 (Q : Int32 → px_M → Prop) : px_P := fun ls st τ => st = [] ∧ kZ ls (fun ls => kZ ls (fun ls => kZ ls (fun ls => kI ls (fun x3 ls => kZ ls (fun ls => kE ls (Q x3 τ))))))
theorem kq_47_168 {C : px_C} {k : Option px_V → px_M → Prop} {Q : Int32 → px_M → Prop} (H : ∀ (x3 : Int32) (τ : px_M), Q x3 τ → ∀ (z0 : Option px_V) (z1 : Option px_V) (z2 : Option px_V) (z4 : Option px_V), px_W C k 168 [z0, z1, z2, some (.inl x3), z4] [] τ) : ∀ ls st τ, kp_47_168 Q ls st τ → px_W C k 168 ls st τ := by
  intro ls st τ hz
  obtain ⟨ez, h0⟩ := hz
  obtain ⟨z0, l0, e0, h1⟩ := kZ_sp h0
  obtain ⟨z1, l1, e1, h2⟩ := kZ_sp h1
  obtain ⟨z2, l2, e2, h3⟩ := kZ_sp h2
  obtain ⟨x3, l3, e3, h4⟩ := kI_sp h3
  obtain ⟨z4, l4, e4, h5⟩ := kZ_sp h4
  obtain ⟨ey, hy⟩ := kE_sp h5
  subst ez
  subst ey
  subst e4
  subst e3
  subst e2
  subst e1
  subst e0
  exact H x3 τ hy z0 z1 z2 z4
def kp_47_134 (Q : Int32 → Int32 → Int32 → px_M → Prop) : px_P := fun ls st τ => st = [] ∧ kI ls (fun x0 ls => kI ls (fun x1 ls => kI ls (fun x2 ls => kZ ls (fun ls => kZ ls (fun ls => kE ls (Q x0 x1 x2 τ))))))
theorem kq_47_134 {C : px_C} {k : Option px_V → px_M → Prop} {Q : Int32 → Int32 → Int32 → px_M → Prop} (H : ∀ (x0 : Int32) (x1 : Int32) (x2 : Int32) (τ : px_M), Q x0 x1 x2 τ → ∀ (z3 : Option px_V) (z4 : Option px_V), px_W C k 134 [some (.inl x0), some (.inl x1), some (.inl x2), z3, z4] [] τ) : ∀ ls st τ, kp_47_134 Q ls st τ → px_W C k 134 ls st τ := by
  intro ls st τ hz
  obtain ⟨ez, h0⟩ := hz
  obtain ⟨x0, l0, e0, h1⟩ := kI_sp h0
  obtain ⟨x1, l1, e1, h2⟩ := kI_sp h1
  obtain ⟨x2, l2, e2, h3⟩ := kI_sp h2
  obtain ⟨z3, l3, e3, h4⟩ := kZ_sp h3
  obtain ⟨z4, l4, e4, h5⟩ := kZ_sp h4
  obtain ⟨ey, hy⟩ := kE_sp h5
  subst ez
  subst ey
  subst e4
  subst e3
  subst e2
  subst e1
  subst e0
  exact H x0 x1 x2 τ hy z3 z4
def kp_47_121 (Q : Int32 → Int32 → px_M → Prop) : px_P := fun ls st τ => st = [] ∧ kZ ls (fun ls => kI ls (fun x1 ls => kI ls (fun x2 ls => kZ ls (fun ls => kZ ls (fun ls => kE ls (Q x1 x2 τ))))))
theorem kq_47_121 {C : px_C} {k : Option px_V → px_M → Prop} {Q : Int32 → Int32 → px_M → Prop} (H : ∀ (x1 : Int32) (x2 : Int32) (τ : px_M), Q x1 x2 τ → ∀ (z0 : Option px_V) (z3 : Option px_V) (z4 : Option px_V), px_W C k 121 [z0, some (.inl x1), some (.inl x2), z3, z4] [] τ) : ∀ ls st τ, kp_47_121 Q ls st τ → px_W C k 121 ls st τ := by
  intro ls st τ hz
  obtain ⟨ez, h0⟩ := hz
  obtain ⟨z0, l0, e0, h1⟩ := kZ_sp h0
  obtain ⟨x1, l1, e1, h2⟩ := kI_sp h1
  obtain ⟨x2, l2, e2, h3⟩ := kI_sp h2
  obtain ⟨z3, l3, e3, h4⟩ := kZ_sp h3
  obtain ⟨z4, l4, e4, h5⟩ := kZ_sp h4
  obtain ⟨ey, hy⟩ := kE_sp h5
  subst ez
  subst ey
  subst e4
  subst e3
  subst e2
  subst e1
  subst e0
  exact H x1 x2 τ hy z0 z3 z4
def kp_47_110 (Q : px_M → Prop) : px_P := fun ls st τ => st = [] ∧ kZ ls (fun ls => kZ ls (fun ls => kZ ls (fun ls => kZ ls (fun ls => kZ ls (fun ls => kE ls (Q τ))))))
theorem kq_47_110 {C : px_C} {k : Option px_V → px_M → Prop} {Q : px_M → Prop} (H : ∀ (τ : px_M), Q τ → ∀ (z0 : Option px_V) (z1 : Option px_V) (z2 : Option px_V) (z3 : Option px_V) (z4 : Option px_V), px_W C k 110 [z0, z1, z2, z3, z4] [] τ) : ∀ ls st τ, kp_47_110 Q ls st τ → px_W C k 110 ls st τ := by
  intro ls st τ hz
  obtain ⟨ez, h0⟩ := hz
  obtain ⟨z0, l0, e0, h1⟩ := kZ_sp h0
  obtain ⟨z1, l1, e1, h2⟩ := kZ_sp h1
  obtain ⟨z2, l2, e2, h3⟩ := kZ_sp h2
  obtain ⟨z3, l3, e3, h4⟩ := kZ_sp h3
  obtain ⟨z4, l4, e4, h5⟩ := kZ_sp h4
  obtain ⟨ey, hy⟩ := kE_sp h5
  subst ez
  subst ey
  subst e4
  subst e3
  subst e2
  subst e1
  subst e0
  exact H τ hy z0 z1 z2 z3 z4
def kp_47_106 (Q : px_M → Prop) : px_P := fun ls st τ => st = [] ∧ kZ ls (fun ls => kZ ls (fun ls => kZ ls (fun ls => kZ ls (fun ls => kZ ls (fun ls => kE ls (Q τ))))))
theorem kq_47_106 {C : px_C} {k : Option px_V → px_M → Prop} {Q : px_M → Prop} (H : ∀ (τ : px_M), Q τ → ∀ (z0 : Option px_V) (z1 : Option px_V) (z2 : Option px_V) (z3 : Option px_V) (z4 : Option px_V), px_W C k 106 [z0, z1, z2, z3, z4] [] τ) : ∀ ls st τ, kp_47_106 Q ls st τ → px_W C k 106 ls st τ := by
  intro ls st τ hz
  obtain ⟨ez, h0⟩ := hz
  obtain ⟨z0, l0, e0, h1⟩ := kZ_sp h0
  obtain ⟨z1, l1, e1, h2⟩ := kZ_sp h1
  obtain ⟨z2, l2, e2, h3⟩ := kZ_sp h2
  obtain ⟨z3, l3, e3, h4⟩ := kZ_sp h3
  obtain ⟨z4, l4, e4, h5⟩ := kZ_sp h4
  obtain ⟨ey, hy⟩ := kE_sp h5
  subst ez
  subst ey
  subst e4
  subst e3
  subst e2
  subst e1
  subst e0
  exact H τ hy z0 z1 z2 z3 z4
def kp_47_43 (Q : Int64 → px_M → Prop) : px_P := fun ls st τ => st = [] ∧ kZ ls (fun ls => kZ ls (fun ls => kZ ls (fun ls => kJ ls (fun x3 ls => kE ls (Q x3 τ)))))
theorem kq_47_43 {C : px_C} {k : Option px_V → px_M → Prop} {Q : Int64 → px_M → Prop} (H : ∀ (x3 : Int64) (τ : px_M), Q x3 τ → ∀ (z0 : Option px_V) (z1 : Option px_V) (z2 : Option px_V), px_W C k 43 [z0, z1, z2, some (.inr (.inl x3)), none] [] τ) : ∀ ls st τ, kp_47_43 Q ls st τ → px_W C k 43 ls st τ := by
  intro ls st τ hz
  obtain ⟨ez, h0⟩ := hz
  obtain ⟨z0, l0, e0, h1⟩ := kZ_sp h0
  obtain ⟨z1, l1, e1, h2⟩ := kZ_sp h1
  obtain ⟨z2, l2, e2, h3⟩ := kZ_sp h2
  obtain ⟨x3, l3, e3, h4⟩ := kJ_sp h3
  obtain ⟨ey, hy⟩ := kE_sp h4
  subst ez
  subst ey
  subst e3
  subst e2
  subst e1
  subst e0
  exact H x3 τ hy z0 z1 z2
set_option maxHeartbeats 4000000 in
set_option maxRecDepth 100000 in
theorem rl_47_168 {C : px_C} (hn : px_nd (px_tb C)) {h : Nat} (hh : 1 ≤ h) (hC : px_ok C pn_i47 h) {k : Option px_V → px_M → Prop} {x3 : Int32} {σ : px_M} (hs : oW (f_47_168 (px_tb C) σ x3) (fun r => k (some (.inl r)) σ)) : ∀ (z0 : Option px_V) (z1 : Option px_V) (z2 : Option px_V) (z4 : Option px_V), px_W C k 168 [z0, z1, z2, some (.inl x3), z4] [] σ := by
  intro z0 z1 z2 z4
  refine px_runG (h - 1) ck_47 [] [] 80 hC px_nosp (by omega) px_nocut (fun G Jf hG hJf => ?_)
  unfold f_47_168 at hs
  by_cases hc0 : x3 = nI 0
  · replace hs := oW_t hs hc0
    simp only [↓hG, ↓hJf, ↓px_vc, ↓px_ex, ↓px_jp, ↓px_gi, ↓px_gl, ↓px_gr, ↓px_s1, ↓px_s2, ↓px_nl, ↓px_i1, ↓px_l1, ↓px_r1_o, ↓px_q1, ↓px_i2, ↓px_l2, ↓px_il, ↓px_d0, ↓px_d1, ↓px_d2, ↓px_pop, px_sz, ↓px_sp, ↓px_rd, ↓px_rf, ↓pn_xf, ↓px_pt, ↓px_rok, ↓px_rv_o, ↓px_fill, ↓px_sl, ↓px_sw, ↓pn_SW, lc_lt, lc_ge, lc_gt, lc_le, lc_eq, ↓reduceIte, Nat.reduceEqDiff, Nat.reduceLeDiff, Nat.reduceAdd, Nat.reduceSub, reduceCtorEq, List.length_cons, List.length_nil, Option.toList_some, Option.toList_none, List.cons_append, List.nil_append, true_and, and_true, false_and, and_false, true_or, or_true, false_or, or_false, and_self, or_self, not_false_eq_true, not_true_eq_false, false_implies, forall_const, true_implies, eq_self, ↓kI_s, ↓kJ_s, ↓kN_s, ↓kO_s, ↓kZ_s, ↓kE_s, oW_some, px_arr_s, nI_10f, ↓bk_47, ↓pn_i47, eq_true hc0]
    rw [oW_some] at hs
    exact hs
  · replace hs := oW_f hs hc0
    simp only [↓hG, ↓hJf, ↓px_vc, ↓px_ex, ↓px_jp, ↓px_gi, ↓px_gl, ↓px_gr, ↓px_s1, ↓px_s2, ↓px_nl, ↓px_i1, ↓px_l1, ↓px_r1_o, ↓px_q1, ↓px_i2, ↓px_l2, ↓px_il, ↓px_d0, ↓px_d1, ↓px_d2, ↓px_pop, px_sz, ↓px_sp, ↓px_rd, ↓px_rf, ↓pn_xf, ↓px_pt, ↓px_rok, ↓px_rv_o, ↓px_fill, ↓px_sl, ↓px_sw, ↓pn_SW, lc_lt, lc_ge, lc_gt, lc_le, lc_eq, ↓reduceIte, Nat.reduceEqDiff, Nat.reduceLeDiff, Nat.reduceAdd, Nat.reduceSub, reduceCtorEq, List.length_cons, List.length_nil, Option.toList_some, Option.toList_none, List.cons_append, List.nil_append, true_and, and_true, false_and, and_false, true_or, or_true, false_or, or_false, and_self, or_self, not_false_eq_true, not_true_eq_false, false_implies, forall_const, true_implies, eq_self, ↓kI_s, ↓kJ_s, ↓kN_s, ↓kO_s, ↓kZ_s, ↓kE_s, oW_some, px_arr_s, nI_10f, ↓bk_47, ↓pn_i47, eq_false hc0]
    rw [oW_some] at hs
    exact hs
set_option maxHeartbeats 4000000 in
set_option maxRecDepth 100000 in
theorem rl_47_134 {C : px_C} (hn : px_nd (px_tb C)) {h : Nat} (hh : 1 ≤ h) (hC : px_ok C pn_i47 h) {k : Option px_V → px_M → Prop} {x0 : Int32} {x1 : Int32} {x2 : Int32} {σ : px_M} (hs : oW (f_47_134 (px_tb C) σ x0 x1 x2) (fun r => k (some (.inl r)) σ)) : ∀ (z3 : Option px_V) (z4 : Option px_V), px_W C k 134 [some (.inl x0), some (.inl x1), some (.inl x2), z3, z4] [] σ := by
  intro z3 z4
  refine px_runG (h - 1) ck_47 [] [(168, kp_47_168 (fun y3 τ => τ = σ ∧ oW (f_47_168 (px_tb C) τ y3) (fun r => k (some (.inl r)) σ)))] 80 hC px_nosp (by omega) (px_cut1 (kq_47_168 (fun y3 τ hq => by obtain ⟨rfl, hq⟩ := hq; exact rl_47_168 hn (by omega) hC  hq)) px_nocut) (fun G Jf hG hJf => ?_)
  unfold f_47_134 at hs
  by_cases hc0 : x0 = (nI 3006)
  · replace hs := bW_t hs hc0
    by_cases hc1 : (x1 + x2) = (nI 2)
    · replace hs := bW_t hs hc1
      simp only [↓hG, ↓hJf, ↓px_vc, ↓px_ex, ↓px_jp, ↓px_gi, ↓px_gl, ↓px_gr, ↓px_s1, ↓px_s2, ↓px_nl, ↓px_i1, ↓px_l1, ↓px_r1_o, ↓px_q1, ↓px_i2, ↓px_l2, ↓px_il, ↓px_d0, ↓px_d1, ↓px_d2, ↓px_pop, px_sz, ↓px_sp, ↓px_rd, ↓px_rf, ↓pn_xf, ↓px_pt, ↓px_rok, ↓px_rv_o, ↓px_fill, ↓px_sl, ↓px_sw, ↓pn_SW, lc_lt, lc_ge, lc_gt, lc_le, lc_eq, ↓reduceIte, Nat.reduceEqDiff, Nat.reduceLeDiff, Nat.reduceAdd, Nat.reduceSub, reduceCtorEq, List.length_cons, List.length_nil, Option.toList_some, Option.toList_none, List.cons_append, List.nil_append, true_and, and_true, false_and, and_false, true_or, or_true, false_or, or_false, and_self, or_self, not_false_eq_true, not_true_eq_false, false_implies, forall_const, true_implies, eq_self, ↓kI_s, ↓kJ_s, ↓kN_s, ↓kO_s, ↓kZ_s, ↓kE_s, oW_some, px_arr_s, nI_10f, ↓bk_47, ↓pn_i47, ↓kp_47_168, eq_true hc0, eq_true hc1]
      exact hs
    · replace hs := bW_f hs hc1
      simp only [↓hG, ↓hJf, ↓px_vc, ↓px_ex, ↓px_jp, ↓px_gi, ↓px_gl, ↓px_gr, ↓px_s1, ↓px_s2, ↓px_nl, ↓px_i1, ↓px_l1, ↓px_r1_o, ↓px_q1, ↓px_i2, ↓px_l2, ↓px_il, ↓px_d0, ↓px_d1, ↓px_d2, ↓px_pop, px_sz, ↓px_sp, ↓px_rd, ↓px_rf, ↓pn_xf, ↓px_pt, ↓px_rok, ↓px_rv_o, ↓px_fill, ↓px_sl, ↓px_sw, ↓pn_SW, lc_lt, lc_ge, lc_gt, lc_le, lc_eq, ↓reduceIte, Nat.reduceEqDiff, Nat.reduceLeDiff, Nat.reduceAdd, Nat.reduceSub, reduceCtorEq, List.length_cons, List.length_nil, Option.toList_some, Option.toList_none, List.cons_append, List.nil_append, true_and, and_true, false_and, and_false, true_or, or_true, false_or, or_false, and_self, or_self, not_false_eq_true, not_true_eq_false, false_implies, forall_const, true_implies, eq_self, ↓kI_s, ↓kJ_s, ↓kN_s, ↓kO_s, ↓kZ_s, ↓kE_s, oW_some, px_arr_s, nI_10f, ↓bk_47, ↓pn_i47, ↓kp_47_168, eq_true hc0, eq_false hc1]
      exact hs
  · replace hs := bW_f hs hc0
    by_cases hc1 : (x1 + x2) ≤ nI 0
    · replace hs := oW_t hs hc1
      simp only [↓hG, ↓hJf, ↓px_vc, ↓px_ex, ↓px_jp, ↓px_gi, ↓px_gl, ↓px_gr, ↓px_s1, ↓px_s2, ↓px_nl, ↓px_i1, ↓px_l1, ↓px_r1_o, ↓px_q1, ↓px_i2, ↓px_l2, ↓px_il, ↓px_d0, ↓px_d1, ↓px_d2, ↓px_pop, px_sz, ↓px_sp, ↓px_rd, ↓px_rf, ↓pn_xf, ↓px_pt, ↓px_rok, ↓px_rv_o, ↓px_fill, ↓px_sl, ↓px_sw, ↓pn_SW, lc_lt, lc_ge, lc_gt, lc_le, lc_eq, ↓reduceIte, Nat.reduceEqDiff, Nat.reduceLeDiff, Nat.reduceAdd, Nat.reduceSub, reduceCtorEq, List.length_cons, List.length_nil, Option.toList_some, Option.toList_none, List.cons_append, List.nil_append, true_and, and_true, false_and, and_false, true_or, or_true, false_or, or_false, and_self, or_self, not_false_eq_true, not_true_eq_false, false_implies, forall_const, true_implies, eq_self, ↓kI_s, ↓kJ_s, ↓kN_s, ↓kO_s, ↓kZ_s, ↓kE_s, oW_some, px_arr_s, nI_10f, ↓bk_47, ↓pn_i47, ↓kp_47_168, eq_false hc0, eq_true hc1]
      exact hs
    · replace hs := oW_f hs hc1
      simp only [↓hG, ↓hJf, ↓px_vc, ↓px_ex, ↓px_jp, ↓px_gi, ↓px_gl, ↓px_gr, ↓px_s1, ↓px_s2, ↓px_nl, ↓px_i1, ↓px_l1, ↓px_r1_o, ↓px_q1, ↓px_i2, ↓px_l2, ↓px_il, ↓px_d0, ↓px_d1, ↓px_d2, ↓px_pop, px_sz, ↓px_sp, ↓px_rd, ↓px_rf, ↓pn_xf, ↓px_pt, ↓px_rok, ↓px_rv_o, ↓px_fill, ↓px_sl, ↓px_sw, ↓pn_SW, lc_lt, lc_ge, lc_gt, lc_le, lc_eq, ↓reduceIte, Nat.reduceEqDiff, Nat.reduceLeDiff, Nat.reduceAdd, Nat.reduceSub, reduceCtorEq, List.length_cons, List.length_nil, Option.toList_some, Option.toList_none, List.cons_append, List.nil_append, true_and, and_true, false_and, and_false, true_or, or_true, false_or, or_false, and_self, or_self, not_false_eq_true, not_true_eq_false, false_implies, forall_const, true_implies, eq_self, ↓kI_s, ↓kJ_s, ↓kN_s, ↓kO_s, ↓kZ_s, ↓kE_s, oW_some, px_arr_s, nI_10f, ↓bk_47, ↓pn_i47, ↓kp_47_168, eq_false hc0, eq_false hc1]
      exact hs
set_option maxHeartbeats 4000000 in
set_option maxRecDepth 100000 in
theorem rl_47_121 {C : px_C} (hn : px_nd (px_tb C)) {h : Nat} (hh : 1 ≤ h) (hC : px_ok C pn_i47 h) {k : Option px_V → px_M → Prop} {x1 : Int32} {x2 : Int32} {σ : px_M} (hs : oW (f_47_121 (px_tb C) σ x1 x2) (fun r => k (some (.inl r)) σ)) : ∀ (z0 : Option px_V) (z3 : Option px_V) (z4 : Option px_V), px_W C k 121 [z0, some (.inl x1), some (.inl x2), z3, z4] [] σ := by
  intro z0 z3 z4
  refine px_runG (h - 1) ck_47 [] [(168, kp_47_168 (fun y3 τ => τ = σ ∧ oW (f_47_168 (px_tb C) τ y3) (fun r => k (some (.inl r)) σ)))] 80 hC px_nosp (by omega) (px_cut1 (kq_47_168 (fun y3 τ hq => by obtain ⟨rfl, hq⟩ := hq; exact rl_47_168 hn (by omega) hC  hq)) px_nocut) (fun G Jf hG hJf => ?_)
  unfold f_47_121 at hs
  by_cases hc0 : x1 ≤ x2
  · replace hs := oW_t hs hc0
    simp only [↓hG, ↓hJf, ↓px_vc, ↓px_ex, ↓px_jp, ↓px_gi, ↓px_gl, ↓px_gr, ↓px_s1, ↓px_s2, ↓px_nl, ↓px_i1, ↓px_l1, ↓px_r1_o, ↓px_q1, ↓px_i2, ↓px_l2, ↓px_il, ↓px_d0, ↓px_d1, ↓px_d2, ↓px_pop, px_sz, ↓px_sp, ↓px_rd, ↓px_rf, ↓pn_xf, ↓px_pt, ↓px_rok, ↓px_rv_o, ↓px_fill, ↓px_sl, ↓px_sw, ↓pn_SW, lc_lt, lc_ge, lc_gt, lc_le, lc_eq, ↓reduceIte, Nat.reduceEqDiff, Nat.reduceLeDiff, Nat.reduceAdd, Nat.reduceSub, reduceCtorEq, List.length_cons, List.length_nil, Option.toList_some, Option.toList_none, List.cons_append, List.nil_append, true_and, and_true, false_and, and_false, true_or, or_true, false_or, or_false, and_self, or_self, not_false_eq_true, not_true_eq_false, false_implies, forall_const, true_implies, eq_self, ↓kI_s, ↓kJ_s, ↓kN_s, ↓kO_s, ↓kZ_s, ↓kE_s, oW_some, px_arr_s, nI_10f, ↓bk_47, ↓pn_i47, ↓kp_47_168, eq_true hc0]
    exact hs
  · replace hs := oW_f hs hc0
    simp only [↓hG, ↓hJf, ↓px_vc, ↓px_ex, ↓px_jp, ↓px_gi, ↓px_gl, ↓px_gr, ↓px_s1, ↓px_s2, ↓px_nl, ↓px_i1, ↓px_l1, ↓px_r1_o, ↓px_q1, ↓px_i2, ↓px_l2, ↓px_il, ↓px_d0, ↓px_d1, ↓px_d2, ↓px_pop, px_sz, ↓px_sp, ↓px_rd, ↓px_rf, ↓pn_xf, ↓px_pt, ↓px_rok, ↓px_rv_o, ↓px_fill, ↓px_sl, ↓px_sw, ↓pn_SW, lc_lt, lc_ge, lc_gt, lc_le, lc_eq, ↓reduceIte, Nat.reduceEqDiff, Nat.reduceLeDiff, Nat.reduceAdd, Nat.reduceSub, reduceCtorEq, List.length_cons, List.length_nil, Option.toList_some, Option.toList_none, List.cons_append, List.nil_append, true_and, and_true, false_and, and_false, true_or, or_true, false_or, or_false, and_self, or_self, not_false_eq_true, not_true_eq_false, false_implies, forall_const, true_implies, eq_self, ↓kI_s, ↓kJ_s, ↓kN_s, ↓kO_s, ↓kZ_s, ↓kE_s, oW_some, px_arr_s, nI_10f, ↓bk_47, ↓pn_i47, ↓kp_47_168, eq_false hc0]
    exact hs
set_option maxHeartbeats 4000000 in
set_option maxRecDepth 100000 in
theorem rl_47_110 {C : px_C} (hn : px_nd (px_tb C)) {h : Nat} (hh : 1 ≤ h) (hC : px_ok C pn_i47 h) {k : Option px_V → px_M → Prop} {σ : px_M} (hs : oW (f_47_110 (px_tb C) σ) (fun r => k (some (.inl r)) σ)) : ∀ (z0 : Option px_V) (z1 : Option px_V) (z2 : Option px_V) (z3 : Option px_V) (z4 : Option px_V), px_W C k 110 [z0, z1, z2, z3, z4] [] σ := by
  intro z0 z1 z2 z3 z4
  refine px_runG (h - 1) ck_47 [] [(168, kp_47_168 (fun y3 τ => τ = σ ∧ oW (f_47_168 (px_tb C) τ y3) (fun r => k (some (.inl r)) σ)))] 80 hC px_nosp (by omega) (px_cut1 (kq_47_168 (fun y3 τ hq => by obtain ⟨rfl, hq⟩ := hq; exact rl_47_168 hn (by omega) hC  hq)) px_nocut) (fun G Jf hG hJf => ?_)
  unfold f_47_110 at hs
  simp only [↓hG, ↓hJf, ↓px_vc, ↓px_ex, ↓px_jp, ↓px_gi, ↓px_gl, ↓px_gr, ↓px_s1, ↓px_s2, ↓px_nl, ↓px_i1, ↓px_l1, ↓px_r1_o, ↓px_q1, ↓px_i2, ↓px_l2, ↓px_il, ↓px_d0, ↓px_d1, ↓px_d2, ↓px_pop, px_sz, ↓px_sp, ↓px_rd, ↓px_rf, ↓pn_xf, ↓px_pt, ↓px_rok, ↓px_rv_o, ↓px_fill, ↓px_sl, ↓px_sw, ↓pn_SW, lc_lt, lc_ge, lc_gt, lc_le, lc_eq, ↓reduceIte, Nat.reduceEqDiff, Nat.reduceLeDiff, Nat.reduceAdd, Nat.reduceSub, reduceCtorEq, List.length_cons, List.length_nil, Option.toList_some, Option.toList_none, List.cons_append, List.nil_append, true_and, and_true, false_and, and_false, true_or, or_true, false_or, or_false, and_self, or_self, not_false_eq_true, not_true_eq_false, false_implies, forall_const, true_implies, eq_self, ↓kI_s, ↓kJ_s, ↓kN_s, ↓kO_s, ↓kZ_s, ↓kE_s, oW_some, px_arr_s, nI_10f, ↓bk_47, ↓pn_i47, ↓kp_47_168]
  exact hs
set_option maxHeartbeats 4000000 in
set_option maxRecDepth 100000 in
theorem rl_47_106 {C : px_C} (hn : px_nd (px_tb C)) {h : Nat} (hh : 1 ≤ h) (hC : px_ok C pn_i47 h) {k : Option px_V → px_M → Prop} {σ : px_M} (hs : oW (f_47_106 (px_tb C) σ) (fun r => k (some (.inl r)) σ)) : ∀ (z0 : Option px_V) (z1 : Option px_V) (z2 : Option px_V) (z3 : Option px_V) (z4 : Option px_V), px_W C k 106 [z0, z1, z2, z3, z4] [] σ := by
  intro z0 z1 z2 z3 z4
  refine px_runG (h - 1) ck_47 [] [(168, kp_47_168 (fun y3 τ => τ = σ ∧ oW (f_47_168 (px_tb C) τ y3) (fun r => k (some (.inl r)) σ)))] 80 hC px_nosp (by omega) (px_cut1 (kq_47_168 (fun y3 τ hq => by obtain ⟨rfl, hq⟩ := hq; exact rl_47_168 hn (by omega) hC  hq)) px_nocut) (fun G Jf hG hJf => ?_)
  unfold f_47_106 at hs
  simp only [↓hG, ↓hJf, ↓px_vc, ↓px_ex, ↓px_jp, ↓px_gi, ↓px_gl, ↓px_gr, ↓px_s1, ↓px_s2, ↓px_nl, ↓px_i1, ↓px_l1, ↓px_r1_o, ↓px_q1, ↓px_i2, ↓px_l2, ↓px_il, ↓px_d0, ↓px_d1, ↓px_d2, ↓px_pop, px_sz, ↓px_sp, ↓px_rd, ↓px_rf, ↓pn_xf, ↓px_pt, ↓px_rok, ↓px_rv_o, ↓px_fill, ↓px_sl, ↓px_sw, ↓pn_SW, lc_lt, lc_ge, lc_gt, lc_le, lc_eq, ↓reduceIte, Nat.reduceEqDiff, Nat.reduceLeDiff, Nat.reduceAdd, Nat.reduceSub, reduceCtorEq, List.length_cons, List.length_nil, Option.toList_some, Option.toList_none, List.cons_append, List.nil_append, true_and, and_true, false_and, and_false, true_or, or_true, false_or, or_false, and_self, or_self, not_false_eq_true, not_true_eq_false, false_implies, forall_const, true_implies, eq_self, ↓kI_s, ↓kJ_s, ↓kN_s, ↓kO_s, ↓kZ_s, ↓kE_s, oW_some, px_arr_s, nI_10f, ↓bk_47, ↓pn_i47, ↓kp_47_168]
  exact hs
set_option maxHeartbeats 4000000 in
set_option maxRecDepth 100000 in
theorem rl_47_43 {C : px_C} (hn : px_nd (px_tb C)) {h : Nat} (hh : 1 ≤ h) (hC : px_ok C pn_i47 h) {k : Option px_V → px_M → Prop} {x3 : Int64} {σ : px_M} (hs : oW (f_47_43 (px_tb C) σ x3) (fun r => k (some (.inl r)) σ)) : ∀ (z0 : Option px_V) (z1 : Option px_V) (z2 : Option px_V), px_W C k 43 [z0, z1, z2, some (.inr (.inl x3)), none] [] σ := by
  intro z0 z1 z2
  refine px_runG (h - 1) ck_47 [] [] 80 hC px_nosp (by omega) px_nocut (fun G Jf hG hJf => ?_)
  unfold f_47_43 at hs
  by_cases hc0 : x3 ≤ (lN 1000000)
  · replace hs := oW_t hs hc0
    by_cases hc1 : (-1000000) ≤ x3
    · replace hs := oW_t hs hc1
      simp only [↓hG, ↓hJf, ↓px_vc, ↓px_ex, ↓px_jp, ↓px_gi, ↓px_gl, ↓px_gr, ↓px_s1, ↓px_s2, ↓px_nl, ↓px_i1, ↓px_l1, ↓px_r1_o, ↓px_q1, ↓px_i2, ↓px_l2, ↓px_il, ↓px_d0, ↓px_d1, ↓px_d2, ↓px_pop, px_sz, ↓px_sp, ↓px_rd, ↓px_rf, ↓pn_xf, ↓px_pt, ↓px_rok, ↓px_rv_o, ↓px_fill, ↓px_sl, ↓px_sw, ↓pn_SW, lc_lt, lc_ge, lc_gt, lc_le, lc_eq, ↓reduceIte, Nat.reduceEqDiff, Nat.reduceLeDiff, Nat.reduceAdd, Nat.reduceSub, reduceCtorEq, List.length_cons, List.length_nil, Option.toList_some, Option.toList_none, List.cons_append, List.nil_append, true_and, and_true, false_and, and_false, true_or, or_true, false_or, or_false, and_self, or_self, not_false_eq_true, not_true_eq_false, false_implies, forall_const, true_implies, eq_self, ↓kI_s, ↓kJ_s, ↓kN_s, ↓kO_s, ↓kZ_s, ↓kE_s, oW_some, px_arr_s, nI_10f, ↓bk_47, ↓pn_i47, eq_true hc0, eq_true hc1]
      rw [oW_some] at hs
      exact hs
    · replace hs := oW_f hs hc1
      simp only [↓hG, ↓hJf, ↓px_vc, ↓px_ex, ↓px_jp, ↓px_gi, ↓px_gl, ↓px_gr, ↓px_s1, ↓px_s2, ↓px_nl, ↓px_i1, ↓px_l1, ↓px_r1_o, ↓px_q1, ↓px_i2, ↓px_l2, ↓px_il, ↓px_d0, ↓px_d1, ↓px_d2, ↓px_pop, px_sz, ↓px_sp, ↓px_rd, ↓px_rf, ↓pn_xf, ↓px_pt, ↓px_rok, ↓px_rv_o, ↓px_fill, ↓px_sl, ↓px_sw, ↓pn_SW, lc_lt, lc_ge, lc_gt, lc_le, lc_eq, ↓reduceIte, Nat.reduceEqDiff, Nat.reduceLeDiff, Nat.reduceAdd, Nat.reduceSub, reduceCtorEq, List.length_cons, List.length_nil, Option.toList_some, Option.toList_none, List.cons_append, List.nil_append, true_and, and_true, false_and, and_false, true_or, or_true, false_or, or_false, and_self, or_self, not_false_eq_true, not_true_eq_false, false_implies, forall_const, true_implies, eq_self, ↓kI_s, ↓kJ_s, ↓kN_s, ↓kO_s, ↓kZ_s, ↓kE_s, oW_some, px_arr_s, nI_10f, ↓bk_47, ↓pn_i47, eq_true hc0, eq_false hc1]
      rw [oW_some] at hs
      exact hs
  · replace hs := oW_f hs hc0
    simp only [↓hG, ↓hJf, ↓px_vc, ↓px_ex, ↓px_jp, ↓px_gi, ↓px_gl, ↓px_gr, ↓px_s1, ↓px_s2, ↓px_nl, ↓px_i1, ↓px_l1, ↓px_r1_o, ↓px_q1, ↓px_i2, ↓px_l2, ↓px_il, ↓px_d0, ↓px_d1, ↓px_d2, ↓px_pop, px_sz, ↓px_sp, ↓px_rd, ↓px_rf, ↓pn_xf, ↓px_pt, ↓px_rok, ↓px_rv_o, ↓px_fill, ↓px_sl, ↓px_sw, ↓pn_SW, lc_lt, lc_ge, lc_gt, lc_le, lc_eq, ↓reduceIte, Nat.reduceEqDiff, Nat.reduceLeDiff, Nat.reduceAdd, Nat.reduceSub, reduceCtorEq, List.length_cons, List.length_nil, Option.toList_some, Option.toList_none, List.cons_append, List.nil_append, true_and, and_true, false_and, and_false, true_or, or_true, false_or, or_false, and_self, or_self, not_false_eq_true, not_true_eq_false, false_implies, forall_const, true_implies, eq_self, ↓kI_s, ↓kJ_s, ↓kN_s, ↓kO_s, ↓kZ_s, ↓kE_s, oW_some, px_arr_s, nI_10f, ↓bk_47, ↓pn_i47, eq_false hc0]
    rw [oW_some] at hs
    exact hs
set_option maxHeartbeats 4000000 in
set_option maxRecDepth 100000 in
theorem mf_47 {tab : px_T} (hn : px_nd tab) {h : Nat} (hh : 1 ≤ h) : px_Ok tab pn_i47 h (Sg_47 (f_47 tab)) := by
  refine px_mth hn (by decide +kernel) (fun av σ k hS => ?_) (fun C hT hC av σ k hS => ?_)
  · obtain ⟨x0, av0, e0, h0⟩ := px_i1_spec hS
    obtain ⟨x1, av1, e1, h1⟩ := px_i1_spec h0
    obtain ⟨x2, av2, e2, h2⟩ := px_i1_spec h1
    obtain ⟨ez, hs⟩ := h2
    subst ez
    subst e2
    subst e1
    subst e0
    exact Nat.le_of_ble_eq_true rfl
  · obtain ⟨x0, av0, e0, h0⟩ := px_i1_spec hS
    obtain ⟨x1, av1, e1, h1⟩ := px_i1_spec h0
    obtain ⟨x2, av2, e2, h2⟩ := px_i1_spec h1
    obtain ⟨ez, hs⟩ := h2
    subst ez
    subst e2
    subst e1
    subst e0
    subst hT
    refine px_runG (h - 1) ck_47 [] [(43, kp_47_43 (fun y3 τ => τ = σ ∧ oW (f_47_43 (px_tb C) τ y3) (fun r => k (some (.inl r)) σ))), (106, kp_47_106 (fun τ => τ = σ ∧ oW (f_47_106 (px_tb C) τ) (fun r => k (some (.inl r)) σ))), (110, kp_47_110 (fun τ => τ = σ ∧ oW (f_47_110 (px_tb C) τ) (fun r => k (some (.inl r)) σ))), (121, kp_47_121 (fun y1 y2 τ => τ = σ ∧ oW (f_47_121 (px_tb C) τ y1 y2) (fun r => k (some (.inl r)) σ))), (134, kp_47_134 (fun y0 y1 y2 τ => τ = σ ∧ oW (f_47_134 (px_tb C) τ y0 y1 y2) (fun r => k (some (.inl r)) σ))), (168, kp_47_168 (fun y3 τ => τ = σ ∧ oW (f_47_168 (px_tb C) τ y3) (fun r => k (some (.inl r)) σ)))] 80 hC px_nosp (by omega) (px_cut1 (kq_47_43 (fun y3 τ hq => by obtain ⟨rfl, hq⟩ := hq; exact rl_47_43 hn (by omega) hC  hq)) (px_cut1 (kq_47_106 (fun τ hq => by obtain ⟨rfl, hq⟩ := hq; exact rl_47_106 hn (by omega) hC  hq)) (px_cut1 (kq_47_110 (fun τ hq => by obtain ⟨rfl, hq⟩ := hq; exact rl_47_110 hn (by omega) hC  hq)) (px_cut1 (kq_47_121 (fun y1 y2 τ hq => by obtain ⟨rfl, hq⟩ := hq; exact rl_47_121 hn (by omega) hC  hq)) (px_cut1 (kq_47_134 (fun y0 y1 y2 τ hq => by obtain ⟨rfl, hq⟩ := hq; exact rl_47_134 hn (by omega) hC  hq)) (px_cut1 (kq_47_168 (fun y3 τ hq => by obtain ⟨rfl, hq⟩ := hq; exact rl_47_168 hn (by omega) hC  hq)) px_nocut)))))) (fun G Jf hG hJf => ?_)
    unfold f_47 at hs
    by_cases hc0 : (nI 3002) < x0
    · replace hs := oW_t hs hc0
      by_cases hc1 : x0 = (nI 3003)
      · replace hs := bW_t hs hc1
        by_cases hc2 : x1 = x2
        · replace hs := bW_t hs hc2
          simp only [↓hG, ↓hJf, ↓px_vc, ↓px_ex, ↓px_jp, ↓px_gi, ↓px_gl, ↓px_gr, ↓px_s1, ↓px_s2, ↓px_nl, ↓px_i1, ↓px_l1, ↓px_r1_o, ↓px_q1, ↓px_i2, ↓px_l2, ↓px_il, ↓px_d0, ↓px_d1, ↓px_d2, ↓px_pop, px_sz, ↓px_sp, ↓px_rd, ↓px_rf, ↓pn_xf, ↓px_pt, ↓px_rok, ↓px_rv_o, ↓px_fill, ↓px_sl, ↓px_sw, ↓pn_SW, lc_lt, lc_ge, lc_gt, lc_le, lc_eq, ↓reduceIte, Nat.reduceEqDiff, Nat.reduceLeDiff, Nat.reduceAdd, Nat.reduceSub, reduceCtorEq, List.length_cons, List.length_nil, Option.toList_some, Option.toList_none, List.cons_append, List.nil_append, true_and, and_true, false_and, and_false, true_or, or_true, false_or, or_false, and_self, or_self, not_false_eq_true, not_true_eq_false, false_implies, forall_const, true_implies, eq_self, ↓kI_s, ↓kJ_s, ↓kN_s, ↓kO_s, ↓kZ_s, ↓kE_s, oW_some, px_arr_s, nI_10f, ↓bk_47, ↓pn_i47, ↓kp_47_43, ↓kp_47_106, ↓kp_47_110, ↓kp_47_121, ↓kp_47_134, ↓kp_47_168, eq_true hc0, eq_true hc1, eq_true hc2]
          exact hs
        · replace hs := bW_f hs hc2
          simp only [↓hG, ↓hJf, ↓px_vc, ↓px_ex, ↓px_jp, ↓px_gi, ↓px_gl, ↓px_gr, ↓px_s1, ↓px_s2, ↓px_nl, ↓px_i1, ↓px_l1, ↓px_r1_o, ↓px_q1, ↓px_i2, ↓px_l2, ↓px_il, ↓px_d0, ↓px_d1, ↓px_d2, ↓px_pop, px_sz, ↓px_sp, ↓px_rd, ↓px_rf, ↓pn_xf, ↓px_pt, ↓px_rok, ↓px_rv_o, ↓px_fill, ↓px_sl, ↓px_sw, ↓pn_SW, lc_lt, lc_ge, lc_gt, lc_le, lc_eq, ↓reduceIte, Nat.reduceEqDiff, Nat.reduceLeDiff, Nat.reduceAdd, Nat.reduceSub, reduceCtorEq, List.length_cons, List.length_nil, Option.toList_some, Option.toList_none, List.cons_append, List.nil_append, true_and, and_true, false_and, and_false, true_or, or_true, false_or, or_false, and_self, or_self, not_false_eq_true, not_true_eq_false, false_implies, forall_const, true_implies, eq_self, ↓kI_s, ↓kJ_s, ↓kN_s, ↓kO_s, ↓kZ_s, ↓kE_s, oW_some, px_arr_s, nI_10f, ↓bk_47, ↓pn_i47, ↓kp_47_43, ↓kp_47_106, ↓kp_47_110, ↓kp_47_121, ↓kp_47_134, ↓kp_47_168, eq_true hc0, eq_true hc1, eq_false hc2]
          exact hs
      · replace hs := bW_f hs hc1
        by_cases hc2 : x0 = (nI 3004)
        · replace hs := bW_t hs hc2
          by_cases hc3 : x2 ≤ x1
          · replace hs := oW_t hs hc3
            simp only [↓hG, ↓hJf, ↓px_vc, ↓px_ex, ↓px_jp, ↓px_gi, ↓px_gl, ↓px_gr, ↓px_s1, ↓px_s2, ↓px_nl, ↓px_i1, ↓px_l1, ↓px_r1_o, ↓px_q1, ↓px_i2, ↓px_l2, ↓px_il, ↓px_d0, ↓px_d1, ↓px_d2, ↓px_pop, px_sz, ↓px_sp, ↓px_rd, ↓px_rf, ↓pn_xf, ↓px_pt, ↓px_rok, ↓px_rv_o, ↓px_fill, ↓px_sl, ↓px_sw, ↓pn_SW, lc_lt, lc_ge, lc_gt, lc_le, lc_eq, ↓reduceIte, Nat.reduceEqDiff, Nat.reduceLeDiff, Nat.reduceAdd, Nat.reduceSub, reduceCtorEq, List.length_cons, List.length_nil, Option.toList_some, Option.toList_none, List.cons_append, List.nil_append, true_and, and_true, false_and, and_false, true_or, or_true, false_or, or_false, and_self, or_self, not_false_eq_true, not_true_eq_false, false_implies, forall_const, true_implies, eq_self, ↓kI_s, ↓kJ_s, ↓kN_s, ↓kO_s, ↓kZ_s, ↓kE_s, oW_some, px_arr_s, nI_10f, ↓bk_47, ↓pn_i47, ↓kp_47_43, ↓kp_47_106, ↓kp_47_110, ↓kp_47_121, ↓kp_47_134, ↓kp_47_168, eq_true hc0, eq_false hc1, eq_true hc2, eq_true hc3]
            exact hs
          · replace hs := oW_f hs hc3
            simp only [↓hG, ↓hJf, ↓px_vc, ↓px_ex, ↓px_jp, ↓px_gi, ↓px_gl, ↓px_gr, ↓px_s1, ↓px_s2, ↓px_nl, ↓px_i1, ↓px_l1, ↓px_r1_o, ↓px_q1, ↓px_i2, ↓px_l2, ↓px_il, ↓px_d0, ↓px_d1, ↓px_d2, ↓px_pop, px_sz, ↓px_sp, ↓px_rd, ↓px_rf, ↓pn_xf, ↓px_pt, ↓px_rok, ↓px_rv_o, ↓px_fill, ↓px_sl, ↓px_sw, ↓pn_SW, lc_lt, lc_ge, lc_gt, lc_le, lc_eq, ↓reduceIte, Nat.reduceEqDiff, Nat.reduceLeDiff, Nat.reduceAdd, Nat.reduceSub, reduceCtorEq, List.length_cons, List.length_nil, Option.toList_some, Option.toList_none, List.cons_append, List.nil_append, true_and, and_true, false_and, and_false, true_or, or_true, false_or, or_false, and_self, or_self, not_false_eq_true, not_true_eq_false, false_implies, forall_const, true_implies, eq_self, ↓kI_s, ↓kJ_s, ↓kN_s, ↓kO_s, ↓kZ_s, ↓kE_s, oW_some, px_arr_s, nI_10f, ↓bk_47, ↓pn_i47, ↓kp_47_43, ↓kp_47_106, ↓kp_47_110, ↓kp_47_121, ↓kp_47_134, ↓kp_47_168, eq_true hc0, eq_false hc1, eq_true hc2, eq_false hc3]
            exact hs
        · replace hs := bW_f hs hc2
          by_cases hc3 : x0 = (nI 3005)
          · replace hs := bW_t hs hc3
            simp only [↓hG, ↓hJf, ↓px_vc, ↓px_ex, ↓px_jp, ↓px_gi, ↓px_gl, ↓px_gr, ↓px_s1, ↓px_s2, ↓px_nl, ↓px_i1, ↓px_l1, ↓px_r1_o, ↓px_q1, ↓px_i2, ↓px_l2, ↓px_il, ↓px_d0, ↓px_d1, ↓px_d2, ↓px_pop, px_sz, ↓px_sp, ↓px_rd, ↓px_rf, ↓pn_xf, ↓px_pt, ↓px_rok, ↓px_rv_o, ↓px_fill, ↓px_sl, ↓px_sw, ↓pn_SW, lc_lt, lc_ge, lc_gt, lc_le, lc_eq, ↓reduceIte, Nat.reduceEqDiff, Nat.reduceLeDiff, Nat.reduceAdd, Nat.reduceSub, reduceCtorEq, List.length_cons, List.length_nil, Option.toList_some, Option.toList_none, List.cons_append, List.nil_append, true_and, and_true, false_and, and_false, true_or, or_true, false_or, or_false, and_self, or_self, not_false_eq_true, not_true_eq_false, false_implies, forall_const, true_implies, eq_self, ↓kI_s, ↓kJ_s, ↓kN_s, ↓kO_s, ↓kZ_s, ↓kE_s, oW_some, px_arr_s, nI_10f, ↓bk_47, ↓pn_i47, ↓kp_47_43, ↓kp_47_106, ↓kp_47_110, ↓kp_47_121, ↓kp_47_134, ↓kp_47_168, eq_true hc0, eq_false hc1, eq_false hc2, eq_true hc3]
            exact hs
          · replace hs := bW_f hs hc3
            simp only [↓hG, ↓hJf, ↓px_vc, ↓px_ex, ↓px_jp, ↓px_gi, ↓px_gl, ↓px_gr, ↓px_s1, ↓px_s2, ↓px_nl, ↓px_i1, ↓px_l1, ↓px_r1_o, ↓px_q1, ↓px_i2, ↓px_l2, ↓px_il, ↓px_d0, ↓px_d1, ↓px_d2, ↓px_pop, px_sz, ↓px_sp, ↓px_rd, ↓px_rf, ↓pn_xf, ↓px_pt, ↓px_rok, ↓px_rv_o, ↓px_fill, ↓px_sl, ↓px_sw, ↓pn_SW, lc_lt, lc_ge, lc_gt, lc_le, lc_eq, ↓reduceIte, Nat.reduceEqDiff, Nat.reduceLeDiff, Nat.reduceAdd, Nat.reduceSub, reduceCtorEq, List.length_cons, List.length_nil, Option.toList_some, Option.toList_none, List.cons_append, List.nil_append, true_and, and_true, false_and, and_false, true_or, or_true, false_or, or_false, and_self, or_self, not_false_eq_true, not_true_eq_false, false_implies, forall_const, true_implies, eq_self, ↓kI_s, ↓kJ_s, ↓kN_s, ↓kO_s, ↓kZ_s, ↓kE_s, oW_some, px_arr_s, nI_10f, ↓bk_47, ↓pn_i47, ↓kp_47_43, ↓kp_47_106, ↓kp_47_110, ↓kp_47_121, ↓kp_47_134, ↓kp_47_168, eq_true hc0, eq_false hc1, eq_false hc2, eq_false hc3]
            exact hs
    · replace hs := oW_f hs hc0
      by_cases hc1 : x0 = (nI 3000)
      · replace hs := bW_t hs hc1
        simp only [↓hG, ↓hJf, ↓px_vc, ↓px_ex, ↓px_jp, ↓px_gi, ↓px_gl, ↓px_gr, ↓px_s1, ↓px_s2, ↓px_nl, ↓px_i1, ↓px_l1, ↓px_r1_o, ↓px_q1, ↓px_i2, ↓px_l2, ↓px_il, ↓px_d0, ↓px_d1, ↓px_d2, ↓px_pop, px_sz, ↓px_sp, ↓px_rd, ↓px_rf, ↓pn_xf, ↓px_pt, ↓px_rok, ↓px_rv_o, ↓px_fill, ↓px_sl, ↓px_sw, ↓pn_SW, lc_lt, lc_ge, lc_gt, lc_le, lc_eq, ↓reduceIte, Nat.reduceEqDiff, Nat.reduceLeDiff, Nat.reduceAdd, Nat.reduceSub, reduceCtorEq, List.length_cons, List.length_nil, Option.toList_some, Option.toList_none, List.cons_append, List.nil_append, true_and, and_true, false_and, and_false, true_or, or_true, false_or, or_false, and_self, or_self, not_false_eq_true, not_true_eq_false, false_implies, forall_const, true_implies, eq_self, ↓kI_s, ↓kJ_s, ↓kN_s, ↓kO_s, ↓kZ_s, ↓kE_s, oW_some, px_arr_s, nI_10f, ↓bk_47, ↓pn_i47, ↓kp_47_43, ↓kp_47_106, ↓kp_47_110, ↓kp_47_121, ↓kp_47_134, ↓kp_47_168, eq_false hc0, eq_true hc1]
        exact hs
      · replace hs := bW_f hs hc1
        by_cases hc2 : x0 = (nI 3001)
        · replace hs := bW_t hs hc2
          simp only [↓hG, ↓hJf, ↓px_vc, ↓px_ex, ↓px_jp, ↓px_gi, ↓px_gl, ↓px_gr, ↓px_s1, ↓px_s2, ↓px_nl, ↓px_i1, ↓px_l1, ↓px_r1_o, ↓px_q1, ↓px_i2, ↓px_l2, ↓px_il, ↓px_d0, ↓px_d1, ↓px_d2, ↓px_pop, px_sz, ↓px_sp, ↓px_rd, ↓px_rf, ↓pn_xf, ↓px_pt, ↓px_rok, ↓px_rv_o, ↓px_fill, ↓px_sl, ↓px_sw, ↓pn_SW, lc_lt, lc_ge, lc_gt, lc_le, lc_eq, ↓reduceIte, Nat.reduceEqDiff, Nat.reduceLeDiff, Nat.reduceAdd, Nat.reduceSub, reduceCtorEq, List.length_cons, List.length_nil, Option.toList_some, Option.toList_none, List.cons_append, List.nil_append, true_and, and_true, false_and, and_false, true_or, or_true, false_or, or_false, and_self, or_self, not_false_eq_true, not_true_eq_false, false_implies, forall_const, true_implies, eq_self, ↓kI_s, ↓kJ_s, ↓kN_s, ↓kO_s, ↓kZ_s, ↓kE_s, oW_some, px_arr_s, nI_10f, ↓bk_47, ↓pn_i47, ↓kp_47_43, ↓kp_47_106, ↓kp_47_110, ↓kp_47_121, ↓kp_47_134, ↓kp_47_168, eq_false hc0, eq_false hc1, eq_true hc2]
          exact hs
        · replace hs := bW_f hs hc2
          simp only [↓hG, ↓hJf, ↓px_vc, ↓px_ex, ↓px_jp, ↓px_gi, ↓px_gl, ↓px_gr, ↓px_s1, ↓px_s2, ↓px_nl, ↓px_i1, ↓px_l1, ↓px_r1_o, ↓px_q1, ↓px_i2, ↓px_l2, ↓px_il, ↓px_d0, ↓px_d1, ↓px_d2, ↓px_pop, px_sz, ↓px_sp, ↓px_rd, ↓px_rf, ↓pn_xf, ↓px_pt, ↓px_rok, ↓px_rv_o, ↓px_fill, ↓px_sl, ↓px_sw, ↓pn_SW, lc_lt, lc_ge, lc_gt, lc_le, lc_eq, ↓reduceIte, Nat.reduceEqDiff, Nat.reduceLeDiff, Nat.reduceAdd, Nat.reduceSub, reduceCtorEq, List.length_cons, List.length_nil, Option.toList_some, Option.toList_none, List.cons_append, List.nil_append, true_and, and_true, false_and, and_false, true_or, or_true, false_or, or_false, and_self, or_self, not_false_eq_true, not_true_eq_false, false_implies, forall_const, true_implies, eq_self, ↓kI_s, ↓kJ_s, ↓kN_s, ↓kO_s, ↓kZ_s, ↓kE_s, oW_some, px_arr_s, nI_10f, ↓bk_47, ↓pn_i47, ↓kp_47_43, ↓kp_47_106, ↓kp_47_110, ↓kp_47_121, ↓kp_47_134, ↓kp_47_168, eq_false hc0, eq_false hc1, eq_false hc2]
          exact hs
