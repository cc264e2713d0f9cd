/-! shallow functions, printed by wip/whole/decomp.py -/
/-- NoThree$Painter.paintAll(IIII)Z -/
noncomputable def F_8004_42 (tab : px_T) (g8004 : px_M → Nat → Int32 → Int32 → Int32 → Int32 → Option (Int32 × px_M)) (x0 : Nat) (x2 : Int32) (x3 : Int32) (x4 : Int32) (x5 : Int32) (x6 : Int32) (x7 : Int32) (σ : px_M) : Option ((Int32 × px_M) ⊕ (Int32 × px_M)) := if x2 < x7 then (some (.inr (((nI 0), σ)))) else (if x3 ≤ x7 then (some (.inr (((nI 0), σ)))) else (gd (px_obj (px_lay tab x0) 8) ((((σ).2.2 x0 0)).bind fun n1 => oA (px_lay tab n1) fun t2 l3 => gd (t2 = 0) (gd (vp_in x7 l3) (gd (px_obj (px_lay tab x0) 8) ((((σ).2.2 x0 2)).bind fun n4 => gd (px_obj (px_lay tab n4) 11) ((((σ).2.2 n4 1)).bind fun n5 => oA (px_lay tab n5) fun t6 l7 => gd (t6 = 0) (gd (vp_in x5 l7) (if (((σ).1 n1 (x7).toNatClampNeg) &&& ((σ).1 n5 (x5).toNatClampNeg)) = nI 0 then (gd (px_obj (px_lay tab x0) 8) ((((σ).2.2 x0 0)).bind fun n8 => oA (px_lay tab n8) fun t9 l10 => gd (t9 = 0) (gd (vp_in x7 l10) ((((σ).2.2 x0 0)).bind fun n11 => oA (px_lay tab n11) fun t12 l13 => gd (t12 = 0) (gd (vp_in x7 l13) ((f_20000 tab (px_wi σ n11 (x7).toNatClampNeg (((σ).1 n8 (x7).toNatClampNeg) ||| ((nI 1) <<< (x5 &&& 31)))) x2 ((x7 + (nI 1)))).bind fun r14 => gd (px_obj (px_lay tab x0) 8) ((g8004 (px_wi σ n11 (x7).toNatClampNeg (((σ).1 n8 (x7).toNatClampNeg) ||| ((nI 1) <<< (x5 &&& 31)))) x0 x6 r14 x3 ((x4 + (nI 1)))).bind fun q15 => gd (px_obj (px_lay tab x0) 8) ((((q15.2).2.2 x0 0)).bind fun n16 => oA (px_lay tab n16) fun t17 l18 => gd (t17 = 0) (gd (vp_in x7 l18) ((((q15.2).2.2 x0 0)).bind fun n19 => oA (px_lay tab n19) fun t20 l21 => gd (t20 = 0) (gd (vp_in x7 l21) (if q15.1 = nI 0 then (some (.inl (((x7 + (nI 1)), (px_wi q15.2 n19 (x7).toNatClampNeg (((q15.2).1 n16 (x7).toNatClampNeg) &&& (((nI 1) <<< (x5 &&& 31)) ^^^ (-1)))))))) else (some (.inr (((nI 1), (px_wi q15.2 n19 (x7).toNatClampNeg (((q15.2).1 n16 (x7).toNatClampNeg) &&& (((nI 1) <<< (x5 &&& 31)) ^^^ (-1)))))))))))))))))))) else (some (.inl (((x7 + (nI 1)), σ)))))))))))))
noncomputable def f_8004_42 (tab : px_T) (g8004 : px_M → Nat → Int32 → Int32 → Int32 → Int32 → Option (Int32 × px_M)) (x0 : Nat) (x2 : Int32) (x3 : Int32) (x4 : Int32) (x5 : Int32) (x6 : Int32) (x7 : Int32) (σ : px_M) : Option (Int32 × px_M) := lpO (fun s : Int32 × px_M => F_8004_42 tab g8004 x0 x2 x3 x4 x5 x6 s.1 s.2) (x7, σ)
theorem f_8004_42_eq (tab : px_T) (g8004 : px_M → Nat → Int32 → Int32 → Int32 → Int32 → Option (Int32 × px_M)) (x0 : Nat) (x2 : Int32) (x3 : Int32) (x4 : Int32) (x5 : Int32) (x6 : Int32) (x7 : Int32) (σ : px_M) : f_8004_42 tab g8004 x0 x2 x3 x4 x5 x6 x7 σ = (F_8004_42 tab g8004 x0 x2 x3 x4 x5 x6 x7 σ).bind (Sum.elim (fun s => f_8004_42 tab g8004 x0 x2 x3 x4 x5 x6 s.1 s.2) some) := lpO_eq _ _
noncomputable def F_8004 (tab : px_T) (g8004 : px_M → Nat → Int32 → Int32 → Int32 → Int32 → Option (Int32 × px_M)) (σ : px_M) (x0 : Nat) (x1 : Int32) (x2 : Int32) (x3 : Int32) (x4 : Int32) : Option (Int32 × px_M) := bn (x1 = nI 0) (gd (px_obj (px_lay tab x0) 8) ((f_8005 tab σ x0 x1 x2).bind fun r1 => if r1 = (-1) then (some (((nI 0), σ))) else (if x4 ≤ (nI 11) then (f_8004_42 tab g8004 x0 x2 x3 x4 r1 ((x1 &&& (((nI 1) <<< (r1 &&& 31)) ^^^ (-1)))) ((nI 0)) σ) else (some (((nI 0), σ)))))) (some (((nI 1), σ)))
def Sg_8004 (g : px_M → Nat → Int32 → Int32 → Int32 → Int32 → Option (Int32 × px_M)) : px_S := fun av σ k => px_r1 av (fun x0 av => px_i1 av (fun x1 av => px_i1 av (fun x2 av => px_i1 av (fun x3 av => px_i1 av (fun x4 av => av = [] ∧ oW (g σ x0 x1 x2 x3 x4) (fun q => k (some (.inl q.1)) q.2))))))
def kp_8004_42 (Q : Nat → Int32 → Int32 → Int32 → Int32 → Int32 → Int32 → px_M → Prop) : px_P := fun ls st τ => st = [] ∧ kN ls (fun x0 ls => kZ ls (fun ls => kI ls (fun x2 ls => kI ls (fun x3 ls => kI ls (fun x4 ls => kI ls (fun x5 ls => kI ls (fun x6 ls => kI ls (fun x7 ls => kZ ls (fun ls => kE ls (Q x0 x2 x3 x4 x5 x6 x7 τ))))))))))
theorem kq_8004_42 {C : px_C} {k : Option px_V → px_M → Prop} {Q : Nat → Int32 → Int32 → Int32 → Int32 → Int32 → Int32 → px_M → Prop} (H : ∀ (x0 : Nat) (x2 : Int32) (x3 : Int32) (x4 : Int32) (x5 : Int32) (x6 : Int32) (x7 : Int32) (τ : px_M), Q x0 x2 x3 x4 x5 x6 x7 τ → ∀ (z1 : Option px_V) (z8 : Option px_V), px_W C k 42 [some (.inr (.inr (some x0))), z1, some (.inl x2), some (.inl x3), some (.inl x4), some (.inl x5), some (.inl x6), some (.inl x7), z8] [] τ) : ∀ ls st τ, kp_8004_42 Q ls st τ → px_W C k 42 ls st τ := by
  intro ls st τ hz
  obtain ⟨ez, h0⟩ := hz
  obtain ⟨x0, l0, e0, h1⟩ := kN_sp h0
  obtain ⟨z1, l1, e1, h2⟩ := kZ_sp h1
  obtain ⟨x2, l2, e2, h3⟩ := kI_sp h2
  obtain ⟨x3, l3, e3, h4⟩ := kI_sp h3
  obtain ⟨x4, l4, e4, h5⟩ := kI_sp h4
  obtain ⟨x5, l5, e5, h6⟩ := kI_sp h5
  obtain ⟨x6, l6, e6, h7⟩ := kI_sp h6
  obtain ⟨x7, l7, e7, h8⟩ := kI_sp h7
  obtain ⟨z8, l8, e8, h9⟩ := kZ_sp h8
  obtain ⟨ey, hy⟩ := kE_sp h9
  subst ez
  subst ey
  subst e8
  subst e7
  subst e6
  subst e5
  subst e4
  subst e3
  subst e2
  subst e1
  subst e0
  exact H x0 x2 x3 x4 x5 x6 x7 τ hy z1 z8
set_option maxHeartbeats 4000000 in
set_option maxRecDepth 100000 in
theorem rl_8004_42 {C : px_C} (hn : ((px_tb C).map Prod.fst).Nodup) {h : Nat} (hh : 2 ≤ h) (hC : px_ok C pn_i8004 h) {g8004 : px_M → Nat → Int32 → Int32 → Int32 → Int32 → Option (Int32 × px_M)} (hg8004 : px_Ok (px_tb C) pn_i8004 (h - 1) (Sg_8004 g8004)) {k : Option px_V → px_M → Prop} {x0 : Nat} {x2 : Int32} {x3 : Int32} {x4 : Int32} {x5 : Int32} {x6 : Int32} : ∀ s : Int32 × px_M, oW (f_8004_42 (px_tb C) g8004 x0 x2 x3 x4 x5 x6 s.1 s.2) (fun q => k (some (.inl q.1)) q.2) → (fun s : Int32 × px_M => ∀ (z1 : Option px_V) (z8 : Option px_V), px_W C k 42 [some (.inr (.inr (some x0))), z1, some (.inl x2), some (.inl x3), some (.inl x4), some (.inl x5), some (.inl x6), some (.inl s.1), z8] [] s.2) s := by
  intro s h0
  refine lpO_sound (P := (fun s : Int32 × px_M => ∀ (z1 : Option px_V) (z8 : Option px_V), px_W C k 42 [some (.inr (.inr (some x0))), z1, some (.inl x2), some (.inl x3), some (.inl x4), some (.inl x5), some (.inl x6), some (.inl s.1), z8] [] s.2)) (fun s hs => ?_) h0
  obtain ⟨x7, σ⟩ := s
  intro z1 z8
  refine px_runG (h - 1) ck_8004 [(8004, Sg_8004 g8004), (20000, Sg_20000 (f_20000 (px_tb C)))] [(42, kp_8004_42 (fun y0 y2 y3 y4 y5 y6 y7 τ => y0 = x0 ∧ y2 = x2 ∧ y3 = x3 ∧ y4 = x4 ∧ y5 = x5 ∧ y6 = x6 ∧ (fun s : Int32 × px_M => ∀ (z1 : Option px_V) (z8 : Option px_V), px_W C k 42 [some (.inr (.inr (some x0))), z1, some (.inl x2), some (.inl x3), some (.inl x4), some (.inl x5), some (.inl x6), some (.inl s.1), z8] [] s.2) (y7, τ)))] 80 hC (px_sp1 (hg8004) (px_sp1 (mf_20000 hn (by omega)) px_nosp)) (by omega) (px_cut1 (kq_8004_42 (fun y0 y2 y3 y4 y5 y6 y7 τ hq => by obtain ⟨rfl, rfl, rfl, rfl, rfl, rfl, hq⟩ := hq; exact hq)) px_nocut) (fun G Jf hG hJf => ?_)
  simp only [F_8004_42, oW_some, oW_none, oW_bind, oW_map, oW_ite, oW_bn, oW_gd, oW_oA, Sum.elim_inl, Sum.elim_inr, oW_and, true_and, and_true, false_and, and_false, true_or, or_true, false_or, or_false, and_self, or_self, not_false_eq_true, not_true_eq_false, false_implies, forall_const, true_implies, eq_self, ↓reduceIte] at hs
  simp only [↓hG, ↓hJf, ↓px_vc, ↓px_ex, ↓px_jp, ↓px_gi, ↓px_gl, ↓px_gr, ↓px_s1, ↓px_s2, ↓px_nl, ↓px_i1, ↓px_l1, ↓px_r1_o, ↓px_q1, ↓px_i2, ↓px_l2, ↓px_il, ↓px_d0, ↓px_d1, ↓px_d2, ↓px_pop, px_sz, ↓px_sp, ↓px_rd, ↓px_pt, ↓px_rok, ↓px_rv_o, ↓px_fill, ↓px_sl, ↓px_sw, ↓pn_SW, lc_lt, lc_ge, lc_gt, lc_le, lc_eq, ↓reduceIte, Nat.reduceEqDiff, Nat.reduceLeDiff, Nat.reduceAdd, Nat.reduceSub, reduceCtorEq, List.length_cons, List.length_nil, Option.toList_some, Option.toList_none, List.cons_append, List.nil_append, true_and, and_true, false_and, and_false, true_or, or_true, false_or, or_false, and_self, or_self, not_false_eq_true, not_true_eq_false, false_implies, forall_const, true_implies, eq_self, ↓kI_s, ↓kJ_s, ↓kN_s, ↓kO_s, ↓kZ_s, ↓kE_s, oW_and, ↓bk_8004, ↓pn_i8004, oW_some, oW_none, oW_bind, oW_map, oW_ite, oW_bn, oW_gd, oW_oA, Sum.elim_inl, Sum.elim_inr, ↓Sg_8004, ↓Sg_20000, ↓kp_8004_42]
  exact hs
set_option maxHeartbeats 4000000 in
set_option maxRecDepth 100000 in
theorem mF_8004 {tab : px_T} (hn : (tab.map Prod.fst).Nodup) {h : Nat} (hh : 2 ≤ h) {g8004 : px_M → Nat → Int32 → Int32 → Int32 → Int32 → Option (Int32 × px_M)} (hg8004 : px_Ok tab pn_i8004 (h - 1) (Sg_8004 g8004)) : px_Ok tab pn_i8004 h (Sg_8004 (F_8004 tab g8004)) := by
  refine px_mth hn (by decide +kernel) (fun av σ k hS => ?_) (fun C hT hC av σ k hS => ?_)
  · obtain ⟨x0, av0, e0, h0⟩ := px_r1_spec hS
    obtain ⟨x1, av1, e1, h1⟩ := px_i1_spec h0
    obtain ⟨x2, av2, e2, h2⟩ := px_i1_spec h1
    obtain ⟨x3, av3, e3, h3⟩ := px_i1_spec h2
    obtain ⟨x4, av4, e4, h4⟩ := px_i1_spec h3
    obtain ⟨ez, hz⟩ := h4
    subst ez
    subst e4
    subst e3
    subst e2
    subst e1
    subst e0
    exact Nat.le_of_ble_eq_true rfl
  · obtain ⟨x0, av0, e0, h0⟩ := px_r1_spec hS
    obtain ⟨x1, av1, e1, h1⟩ := px_i1_spec h0
    obtain ⟨x2, av2, e2, h2⟩ := px_i1_spec h1
    obtain ⟨x3, av3, e3, h3⟩ := px_i1_spec h2
    obtain ⟨x4, av4, e4, h4⟩ := px_i1_spec h3
    obtain ⟨ez, hz⟩ := h4
    subst ez
    subst e4
    subst e3
    subst e2
    subst e1
    subst e0
    subst hT
    refine px_runG (h - 1) ck_8004 [(8005, Sg_8005 (f_8005 (px_tb C)))] [(42, kp_8004_42 (fun y0 y2 y3 y4 y5 y6 y7 τ => oW (f_8004_42 (px_tb C) g8004 y0 y2 y3 y4 y5 y6 y7 τ) (fun q => k (some (.inl q.1)) q.2)))] 80 hC (px_sp1 (mf_8005 hn (by omega)) px_nosp) (by omega) (px_cut1 (kq_8004_42 (fun y0 y2 y3 y4 y5 y6 y7 τ hq => by exact rl_8004_42 hn (by omega) hC hg8004 (y7, τ) hq)) px_nocut) (fun G Jf hG hJf => ?_)
    simp only [F_8004, oW_some, oW_none, oW_bind, oW_map, oW_ite, oW_bn, oW_gd, oW_oA, Sum.elim_inl, Sum.elim_inr, oW_and, true_and, and_true, false_and, and_false, true_or, or_true, false_or, or_false, and_self, or_self, not_false_eq_true, not_true_eq_false, false_implies, forall_const, true_implies, eq_self, ↓reduceIte] at hz
    simp only [↓hG, ↓hJf, ↓px_vc, ↓px_ex, ↓px_jp, ↓px_gi, ↓px_gl, ↓px_gr, ↓px_s1, ↓px_s2, ↓px_nl, ↓px_i1, ↓px_l1, ↓px_r1_o, ↓px_q1, ↓px_i2, ↓px_l2, ↓px_il, ↓px_d0, ↓px_d1, ↓px_d2, ↓px_pop, px_sz, ↓px_sp, ↓px_rd, ↓px_pt, ↓px_rok, ↓px_rv_o, ↓px_fill, ↓px_sl, ↓px_sw, ↓pn_SW, lc_lt, lc_ge, lc_gt, lc_le, lc_eq, ↓reduceIte, Nat.reduceEqDiff, Nat.reduceLeDiff, Nat.reduceAdd, Nat.reduceSub, reduceCtorEq, List.length_cons, List.length_nil, Option.toList_some, Option.toList_none, List.cons_append, List.nil_append, true_and, and_true, false_and, and_false, true_or, or_true, false_or, or_false, and_self, or_self, not_false_eq_true, not_true_eq_false, false_implies, forall_const, true_implies, eq_self, ↓kI_s, ↓kJ_s, ↓kN_s, ↓kO_s, ↓kZ_s, ↓kE_s, oW_and, ↓bk_8004, ↓pn_i8004, oW_some, oW_none, oW_bind, oW_map, oW_ite, oW_bn, oW_gd, oW_oA, Sum.elim_inl, Sum.elim_inr, ↓Sg_8005, ↓kp_8004_42]
    exact hz
noncomputable def fr_8004 (tab : px_T) : Nat → (px_M → Nat → Int32 → Int32 → Int32 → Int32 → Option (Int32 × px_M))
  | 0 => fun _ _ _ _ _ _ => none
  | d + 1 => F_8004 tab ((fr_8004 tab d))
noncomputable def f_8004 (tab : px_T) (d : Nat) : px_M → Nat → Int32 → Int32 → Int32 → Int32 → Option (Int32 × px_M) := fr_8004 tab d
theorem f_8004_S (tab : px_T) (d : Nat) : f_8004 tab (d + 1) = F_8004 tab (f_8004 tab d) := rfl
theorem mr_f8004 {tab : px_T} (hn : (tab.map Prod.fst).Nodup) : ∀ (d h : Nat), 1 + d ≤ h → px_Ok tab pn_i8004 h (Sg_8004 (f_8004 tab d)) := by
  intro d
  induction d with
  | zero =>
    intro h hh
    exact px_Ok_no (fun av σ k h0 => by obtain ⟨x0, av0, -, h1⟩ := px_r1_spec h0; obtain ⟨x1, av1, -, h2⟩ := px_i1_spec h1; obtain ⟨x2, av2, -, h3⟩ := px_i1_spec h2; obtain ⟨x3, av3, -, h4⟩ := px_i1_spec h3; obtain ⟨x4, av4, -, h5⟩ := px_i1_spec h4; exact h5.2.elim)
  | succ d ih =>
    intro h hh
    have h8004 := ih (h - 1) (by omega)
    exact mF_8004 hn (by omega) h8004
theorem mf_8004 {tab : px_T} (hn : (tab.map Prod.fst).Nodup) {h d : Nat} (hh : 1 + d ≤ h) : px_Ok tab pn_i8004 h (Sg_8004 (f_8004 tab d)) := (mr_f8004 hn d h hh)
/-- NoThree$Town.firstHalf(I)I -/
noncomputable def F_11031_48 (tab : px_T) (σ : px_M) (x0 : Nat) (x1 : Int32) (x2 : Int32) (x3 : Int32) (x4 : Int32) (x5 : Int32) (x6 : Int32) (x7 : Int32) : Option ((Int32 × Int32 × Int32) ⊕ ((Int32 × Int32 × Int32) ⊕ (Int32))) := if (nI 11) ≤ x7 then (if (x5 &&& x6) = nI 0 then (some (.inr (.inl (((x2 ||| x5), (x3 ||| x6), (x4 + (nI 1))))))) else (some (.inr (.inr ((-1)))))) else (gd (px_obj (px_lay tab x0) 11) ((f_11016 tab σ x0 x5).bind fun r1 => bn ((r1 &&& x1) = x6) (gd (px_obj (px_lay tab x0) 11) ((f_11016 tab σ x0 ((r1 &&& x1))).bind fun r2 => some (.inl (((x5 ||| (r2 &&& x1)), (r1 &&& x1), (x7 + (nI 1))))))) (if (x5 &&& x6) = nI 0 then (some (.inr (.inl (((x2 ||| x5), (x3 ||| x6), (x4 + (nI 1))))))) else (some (.inr (.inr ((-1))))))))
noncomputable def f_11031_48 (tab : px_T) (σ : px_M) (x0 : Nat) (x1 : Int32) (x2 : Int32) (x3 : Int32) (x4 : Int32) (x5 : Int32) (x6 : Int32) (x7 : Int32) : Option ((Int32 × Int32 × Int32) ⊕ (Int32)) := lpO (fun s : Int32 × Int32 × Int32 => F_11031_48 tab σ x0 x1 x2 x3 x4 s.1 s.2.1 s.2.2) (x5, x6, x7)
theorem f_11031_48_eq (tab : px_T) (σ : px_M) (x0 : Nat) (x1 : Int32) (x2 : Int32) (x3 : Int32) (x4 : Int32) (x5 : Int32) (x6 : Int32) (x7 : Int32) : f_11031_48 tab σ x0 x1 x2 x3 x4 x5 x6 x7 = (F_11031_48 tab σ x0 x1 x2 x3 x4 x5 x6 x7).bind (Sum.elim (fun s => f_11031_48 tab σ x0 x1 x2 x3 x4 s.1 s.2.1 s.2.2) some) := lpO_eq _ _
noncomputable def F_11031_7 (tab : px_T) (σ : px_M) (x0 : Nat) (x1 : Int32) (x2 : Int32) (x3 : Int32) (x4 : Int32) : Option ((Int32 × Int32 × Int32) ⊕ (Int32)) := gd (px_obj (px_lay tab x0) 11) (if ((σ).1 x0 0) ≤ x4 then (some (.inr (x2))) else (bn ((((x1 &&& (x2 ^^^ (-1))) &&& (x3 ^^^ (-1))) &&& ((nI 1) <<< (x4 &&& 31))) = nI 0) (f_11031_48 tab σ x0 x1 x2 x3 x4 (((nI 1) <<< (x4 &&& 31))) ((nI 0)) ((nI 0))) (some (.inl ((x2, x3, (x4 + (nI 1))))))))
noncomputable def f_11031_7 (tab : px_T) (σ : px_M) (x0 : Nat) (x1 : Int32) (x2 : Int32) (x3 : Int32) (x4 : Int32) : Option (Int32) := lpO (fun s : Int32 × Int32 × Int32 => F_11031_7 tab σ x0 x1 s.1 s.2.1 s.2.2) (x2, x3, x4)
theorem f_11031_7_eq (tab : px_T) (σ : px_M) (x0 : Nat) (x1 : Int32) (x2 : Int32) (x3 : Int32) (x4 : Int32) : f_11031_7 tab σ x0 x1 x2 x3 x4 = (F_11031_7 tab σ x0 x1 x2 x3 x4).bind (Sum.elim (fun s => f_11031_7 tab σ x0 x1 s.1 s.2.1 s.2.2) some) := lpO_eq _ _
noncomputable def f_11031 (tab : px_T) (σ : px_M) (x0 : Nat) (x1 : Int32) : Option (Int32) := f_11031_7 tab σ x0 x1 ((nI 0)) ((nI 0)) ((nI 0))
def Sg_11031 (g : px_M → Nat → Int32 → Option (Int32)) : px_S := fun av σ k => px_r1 av (fun x0 av => px_i1 av (fun x1 av => av = [] ∧ oW (g σ x0 x1) (fun r => k (some (.inl r)) σ)))
def kp_11031_48 (Q : Nat → Int32 → Int32 → Int32 → Int32 → Int32 → Int32 → Int32 → px_M → Prop) : px_P := fun ls st τ => st = [] ∧ kN ls (fun x0 ls => kI ls (fun x1 ls => kI ls (fun x2 ls => kI ls (fun x3 ls => kI ls (fun x4 ls => kI ls (fun x5 ls => kI ls (fun x6 ls => kI ls (fun x7 ls => kZ ls (fun ls => kE ls (Q x0 x1 x2 x3 x4 x5 x6 x7 τ))))))))))
theorem kq_11031_48 {C : px_C} {k : Option px_V → px_M → Prop} {Q : Nat → Int32 → Int32 → Int32 → Int32 → Int32 → Int32 → Int32 → px_M → Prop} (H : ∀ (x0 : Nat) (x1 : Int32) (x2 : Int32) (x3 : Int32) (x4 : Int32) (x5 : Int32) (x6 : Int32) (x7 : Int32) (τ : px_M), Q x0 x1 x2 x3 x4 x5 x6 x7 τ → ∀ (z8 : Option px_V), px_W C k 48 [some (.inr (.inr (some x0))), some (.inl x1), some (.inl x2), some (.inl x3), some (.inl x4), some (.inl x5), some (.inl x6), some (.inl x7), z8] [] τ) : ∀ ls st τ, kp_11031_48 Q ls st τ → px_W C k 48 ls st τ := by
  intro ls st τ hz
  obtain ⟨ez, h0⟩ := hz
  obtain ⟨x0, l0, e0, h1⟩ := kN_sp h0
  obtain ⟨x1, l1, e1, h2⟩ := kI_sp h1
  obtain ⟨x2, l2, e2, h3⟩ := kI_sp h2
  obtain ⟨x3, l3, e3, h4⟩ := kI_sp h3
  obtain ⟨x4, l4, e4, h5⟩ := kI_sp h4
  obtain ⟨x5, l5, e5, h6⟩ := kI_sp h5
  obtain ⟨x6, l6, e6, h7⟩ := kI_sp h6
  obtain ⟨x7, l7, e7, h8⟩ := kI_sp h7
  obtain ⟨z8, l8, e8, h9⟩ := kZ_sp h8
  obtain ⟨ey, hy⟩ := kE_sp h9
  subst ez
  subst ey
  subst e8
  subst e7
  subst e6
  subst e5
  subst e4
  subst e3
  subst e2
  subst e1
  subst e0
  exact H x0 x1 x2 x3 x4 x5 x6 x7 τ hy z8
def kp_11031_7 (Q : Nat → Int32 → Int32 → Int32 → Int32 → px_M → Prop) : px_P := fun ls st τ => st = [] ∧ kN ls (fun x0 ls => kI ls (fun x1 ls => kI ls (fun x2 ls => kI ls (fun x3 ls => kI ls (fun x4 ls => kZ ls (fun ls => kZ ls (fun ls => kZ ls (fun ls => kZ ls (fun ls => kE ls (Q x0 x1 x2 x3 x4 τ))))))))))
theorem kq_11031_7 {C : px_C} {k : Option px_V → px_M → Prop} {Q : Nat → Int32 → Int32 → Int32 → Int32 → px_M → Prop} (H : ∀ (x0 : Nat) (x1 : Int32) (x2 : Int32) (x3 : Int32) (x4 : Int32) (τ : px_M), Q x0 x1 x2 x3 x4 τ → ∀ (z5 : Option px_V) (z6 : Option px_V) (z7 : Option px_V) (z8 : Option px_V), px_W C k 7 [some (.inr (.inr (some x0))), some (.inl x1), some (.inl x2), some (.inl x3), some (.inl x4), z5, z6, z7, z8] [] τ) : ∀ ls st τ, kp_11031_7 Q ls st τ → px_W C k 7 ls st τ := by
  intro ls st τ hz
  obtain ⟨ez, h0⟩ := hz
  obtain ⟨x0, l0, e0, h1⟩ := kN_sp h0
  obtain ⟨x1, l1, e1, h2⟩ := kI_sp h1
  obtain ⟨x2, l2, e2, h3⟩ := kI_sp h2
  obtain ⟨x3, l3, e3, h4⟩ := kI_sp h3
  obtain ⟨x4, l4, e4, h5⟩ := kI_sp h4
  obtain ⟨z5, l5, e5, h6⟩ := kZ_sp h5
  obtain ⟨z6, l6, e6, h7⟩ := kZ_sp h6
  obtain ⟨z7, l7, e7, h8⟩ := kZ_sp h7
  obtain ⟨z8, l8, e8, h9⟩ := kZ_sp h8
  obtain ⟨ey, hy⟩ := kE_sp h9
  subst ez
  subst ey
  subst e8
  subst e7
  subst e6
  subst e5
  subst e4
  subst e3
  subst e2
  subst e1
  subst e0
  exact H x0 x1 x2 x3 x4 τ hy z5 z6 z7 z8
set_option maxHeartbeats 4000000 in
set_option maxRecDepth 100000 in
theorem rl_11031_48 {C : px_C} (hn : ((px_tb C).map Prod.fst).Nodup) {h : Nat} (hh : 2 ≤ h) (hC : px_ok C pn_i11031 h) {k : Option px_V → px_M → Prop} {x0 : Nat} {x1 : Int32} {x2 : Int32} {x3 : Int32} {x4 : Int32} {σ : px_M} : ∀ s : Int32 × Int32 × Int32, oW (f_11031_48 (px_tb C) σ x0 x1 x2 x3 x4 s.1 s.2.1 s.2.2) (Sum.elim (fun s : Int32 × Int32 × Int32 => ∀ (z5 : Option px_V) (z6 : Option px_V) (z7 : Option px_V) (z8 : Option px_V), px_W C k 7 [some (.inr (.inr (some x0))), some (.inl x1), some (.inl s.1), some (.inl s.2.1), some (.inl s.2.2), z5, z6, z7, z8] [] σ) (fun r => k (some (.inl r)) σ)) → (fun s : Int32 × Int32 × Int32 => ∀ (z8 : Option px_V), px_W C k 48 [some (.inr (.inr (some x0))), some (.inl x1), some (.inl x2), some (.inl x3), some (.inl x4), some (.inl s.1), some (.inl s.2.1), some (.inl s.2.2), z8] [] σ) s := by
  intro s h0
  refine lpO_sound (P := (fun s : Int32 × Int32 × Int32 => ∀ (z8 : Option px_V), px_W C k 48 [some (.inr (.inr (some x0))), some (.inl x1), some (.inl x2), some (.inl x3), some (.inl x4), some (.inl s.1), some (.inl s.2.1), some (.inl s.2.2), z8] [] σ)) (fun s hs => ?_) h0
  obtain ⟨x5, x6, x7⟩ := s
  intro z8
  refine px_runG (h - 1) ck_11031 [(11016, Sg_11016 (f_11016 (px_tb C)))] [(7, kp_11031_7 (fun y0 y1 y2 y3 y4 τ => y0 = x0 ∧ y1 = x1 ∧ τ = σ ∧ (fun s : Int32 × Int32 × Int32 => ∀ (z5 : Option px_V) (z6 : Option px_V) (z7 : Option px_V) (z8 : Option px_V), px_W C k 7 [some (.inr (.inr (some x0))), some (.inl x1), some (.inl s.1), some (.inl s.2.1), some (.inl s.2.2), z5, z6, z7, z8] [] σ) (y2, y3, y4))), (48, kp_11031_48 (fun y0 y1 y2 y3 y4 y5 y6 y7 τ => y0 = x0 ∧ y1 = x1 ∧ y2 = x2 ∧ y3 = x3 ∧ y4 = x4 ∧ τ = σ ∧ (fun s : Int32 × Int32 × Int32 => ∀ (z8 : Option px_V), px_W C k 48 [some (.inr (.inr (some x0))), some (.inl x1), some (.inl x2), some (.inl x3), some (.inl x4), some (.inl s.1), some (.inl s.2.1), some (.inl s.2.2), z8] [] σ) (y5, y6, y7)))] 80 hC (px_sp1 (mf_11016 hn (by omega)) px_nosp) (by omega) (px_cut1 (kq_11031_7 (fun y0 y1 y2 y3 y4 τ hq => by obtain ⟨rfl, rfl, rfl, hq⟩ := hq; exact hq)) (px_cut1 (kq_11031_48 (fun y0 y1 y2 y3 y4 y5 y6 y7 τ hq => by obtain ⟨rfl, rfl, rfl, rfl, rfl, rfl, hq⟩ := hq; exact hq)) px_nocut)) (fun G Jf hG hJf => ?_)
  simp only [F_11031_48, oW_some, oW_none, oW_bind, oW_map, oW_ite, oW_bn, oW_gd, oW_oA, Sum.elim_inl, Sum.elim_inr, oW_and, true_and, and_true, false_and, and_false, true_or, or_true, false_or, or_false, and_self, or_self, not_false_eq_true, not_true_eq_false, false_implies, forall_const, true_implies, eq_self, ↓reduceIte] at hs
  simp only [↓hG, ↓hJf, ↓px_vc, ↓px_ex, ↓px_jp, ↓px_gi, ↓px_gl, ↓px_gr, ↓px_s1, ↓px_s2, ↓px_nl, ↓px_i1, ↓px_l1, ↓px_r1_o, ↓px_q1, ↓px_i2, ↓px_l2, ↓px_il, ↓px_d0, ↓px_d1, ↓px_d2, ↓px_pop, px_sz, ↓px_sp, ↓px_rd, ↓px_pt, ↓px_rok, ↓px_rv_o, ↓px_fill, ↓px_sl, ↓px_sw, ↓pn_SW, lc_lt, lc_ge, lc_gt, lc_le, lc_eq, ↓reduceIte, Nat.reduceEqDiff, Nat.reduceLeDiff, Nat.reduceAdd, Nat.reduceSub, reduceCtorEq, List.length_cons, List.length_nil, Option.toList_some, Option.toList_none, List.cons_append, List.nil_append, true_and, and_true, false_and, and_false, true_or, or_true, false_or, or_false, and_self, or_self, not_false_eq_true, not_true_eq_false, false_implies, forall_const, true_implies, eq_self, ↓kI_s, ↓kJ_s, ↓kN_s, ↓kO_s, ↓kZ_s, ↓kE_s, oW_and, ↓bk_11031, ↓pn_i11031, oW_some, oW_none, oW_bind, oW_map, oW_ite, oW_bn, oW_gd, oW_oA, Sum.elim_inl, Sum.elim_inr, ↓Sg_11016, ↓kp_11031_7, ↓kp_11031_48]
  exact hs
set_option maxHeartbeats 4000000 in
set_option maxRecDepth 100000 in
theorem rl_11031_7 {C : px_C} (hn : ((px_tb C).map Prod.fst).Nodup) {h : Nat} (hh : 2 ≤ h) (hC : px_ok C pn_i11031 h) {k : Option px_V → px_M → Prop} {x0 : Nat} {x1 : Int32} {σ : px_M} : ∀ s : Int32 × Int32 × Int32, oW (f_11031_7 (px_tb C) σ x0 x1 s.1 s.2.1 s.2.2) (fun r => k (some (.inl r)) σ) → (fun s : Int32 × Int32 × Int32 => ∀ (z5 : Option px_V) (z6 : Option px_V) (z7 : Option px_V) (z8 : Option px_V), px_W C k 7 [some (.inr (.inr (some x0))), some (.inl x1), some (.inl s.1), some (.inl s.2.1), some (.inl s.2.2), z5, z6, z7, z8] [] σ) s := by
  intro s h0
  refine lpO_sound (P := (fun s : Int32 × Int32 × Int32 => ∀ (z5 : Option px_V) (z6 : Option px_V) (z7 : Option px_V) (z8 : Option px_V), px_W C k 7 [some (.inr (.inr (some x0))), some (.inl x1), some (.inl s.1), some (.inl s.2.1), some (.inl s.2.2), z5, z6, z7, z8] [] σ)) (fun s hs => ?_) h0
  obtain ⟨x2, x3, x4⟩ := s
  intro z5 z6 z7 z8
  refine px_runG (h - 1) ck_11031 [] [(7, kp_11031_7 (fun y0 y1 y2 y3 y4 τ => y0 = x0 ∧ y1 = x1 ∧ τ = σ ∧ (fun s : Int32 × Int32 × Int32 => ∀ (z5 : Option px_V) (z6 : Option px_V) (z7 : Option px_V) (z8 : Option px_V), px_W C k 7 [some (.inr (.inr (some x0))), some (.inl x1), some (.inl s.1), some (.inl s.2.1), some (.inl s.2.2), z5, z6, z7, z8] [] σ) (y2, y3, y4))), (48, kp_11031_48 (fun y0 y1 y2 y3 y4 y5 y6 y7 τ => y0 = x0 ∧ y1 = x1 ∧ τ = σ ∧ oW (f_11031_48 (px_tb C) τ y0 y1 y2 y3 y4 y5 y6 y7) (Sum.elim (fun s : Int32 × Int32 × Int32 => ∀ (z5 : Option px_V) (z6 : Option px_V) (z7 : Option px_V) (z8 : Option px_V), px_W C k 7 [some (.inr (.inr (some x0))), some (.inl x1), some (.inl s.1), some (.inl s.2.1), some (.inl s.2.2), z5, z6, z7, z8] [] σ) (fun r => k (some (.inl r)) σ))))] 80 hC px_nosp (by omega) (px_cut1 (kq_11031_7 (fun y0 y1 y2 y3 y4 τ hq => by obtain ⟨rfl, rfl, rfl, hq⟩ := hq; exact hq)) (px_cut1 (kq_11031_48 (fun y0 y1 y2 y3 y4 y5 y6 y7 τ hq => by obtain ⟨rfl, rfl, rfl, hq⟩ := hq; exact rl_11031_48 hn (by omega) hC (y5, y6, y7) hq)) px_nocut)) (fun G Jf hG hJf => ?_)
  simp only [F_11031_7, oW_some, oW_none, oW_bind, oW_map, oW_ite, oW_bn, oW_gd, oW_oA, Sum.elim_inl, Sum.elim_inr, oW_and, true_and, and_true, false_and, and_false, true_or, or_true, false_or, or_false, and_self, or_self, not_false_eq_true, not_true_eq_false, false_implies, forall_const, true_implies, eq_self, ↓reduceIte] at hs
  simp only [↓hG, ↓hJf, ↓px_vc, ↓px_ex, ↓px_jp, ↓px_gi, ↓px_gl, ↓px_gr, ↓px_s1, ↓px_s2, ↓px_nl, ↓px_i1, ↓px_l1, ↓px_r1_o, ↓px_q1, ↓px_i2, ↓px_l2, ↓px_il, ↓px_d0, ↓px_d1, ↓px_d2, ↓px_pop, px_sz, ↓px_sp, ↓px_rd, ↓px_pt, ↓px_rok, ↓px_rv_o, ↓px_fill, ↓px_sl, ↓px_sw, ↓pn_SW, lc_lt, lc_ge, lc_gt, lc_le, lc_eq, ↓reduceIte, Nat.reduceEqDiff, Nat.reduceLeDiff, Nat.reduceAdd, Nat.reduceSub, reduceCtorEq, List.length_cons, List.length_nil, Option.toList_some, Option.toList_none, List.cons_append, List.nil_append, true_and, and_true, false_and, and_false, true_or, or_true, false_or, or_false, and_self, or_self, not_false_eq_true, not_true_eq_false, false_implies, forall_const, true_implies, eq_self, ↓kI_s, ↓kJ_s, ↓kN_s, ↓kO_s, ↓kZ_s, ↓kE_s, oW_and, ↓bk_11031, ↓pn_i11031, oW_some, oW_none, oW_bind, oW_map, oW_ite, oW_bn, oW_gd, oW_oA, Sum.elim_inl, Sum.elim_inr, ↓kp_11031_7, ↓kp_11031_48]
  exact hs
set_option maxHeartbeats 4000000 in
set_option maxRecDepth 100000 in
theorem mf_11031 {tab : px_T} (hn : (tab.map Prod.fst).Nodup) {h : Nat} (hh : 2 ≤ h) : px_Ok tab pn_i11031 h (Sg_11031 (f_11031 tab)) := by
  refine px_mth hn (by decide +kernel) (fun av σ k hS => ?_) (fun C hT hC av σ k hS => ?_)
  · obtain ⟨x0, av0, e0, h0⟩ := px_r1_spec hS
    obtain ⟨x1, av1, e1, h1⟩ := px_i1_spec h0
    obtain ⟨ez, hz⟩ := h1
    subst ez
    subst e1
    subst e0
    exact Nat.le_of_ble_eq_true rfl
  · obtain ⟨x0, av0, e0, h0⟩ := px_r1_spec hS
    obtain ⟨x1, av1, e1, h1⟩ := px_i1_spec h0
    obtain ⟨ez, hz⟩ := h1
    subst ez
    subst e1
    subst e0
    subst hT
    refine px_runG (h - 1) ck_11031 [] [(7, kp_11031_7 (fun y0 y1 y2 y3 y4 τ => τ = σ ∧ oW (f_11031_7 (px_tb C) τ y0 y1 y2 y3 y4) (fun r => k (some (.inl r)) σ)))] 80 hC px_nosp (by omega) (px_cut1 (kq_11031_7 (fun y0 y1 y2 y3 y4 τ hq => by obtain ⟨rfl, hq⟩ := hq; exact rl_11031_7 hn (by omega) hC (y2, y3, y4) hq)) px_nocut) (fun G Jf hG hJf => ?_)
    simp only [f_11031, oW_some, oW_none, oW_bind, oW_map, oW_ite, oW_bn, oW_gd, oW_oA, Sum.elim_inl, Sum.elim_inr, oW_and, true_and, and_true, false_and, and_false, true_or, or_true, false_or, or_false, and_self, or_self, not_false_eq_true, not_true_eq_false, false_implies, forall_const, true_implies, eq_self, ↓reduceIte] at hz
    simp only [↓hG, ↓hJf, ↓px_vc, ↓px_ex, ↓px_jp, ↓px_gi, ↓px_gl, ↓px_gr, ↓px_s1, ↓px_s2, ↓px_nl, ↓px_i1, ↓px_l1, ↓px_r1_o, ↓px_q1, ↓px_i2, ↓px_l2, ↓px_il, ↓px_d0, ↓px_d1, ↓px_d2, ↓px_pop, px_sz, ↓px_sp, ↓px_rd, ↓px_pt, ↓px_rok, ↓px_rv_o, ↓px_fill, ↓px_sl, ↓px_sw, ↓pn_SW, lc_lt, lc_ge, lc_gt, lc_le, lc_eq, ↓reduceIte, Nat.reduceEqDiff, Nat.reduceLeDiff, Nat.reduceAdd, Nat.reduceSub, reduceCtorEq, List.length_cons, List.length_nil, Option.toList_some, Option.toList_none, List.cons_append, List.nil_append, true_and, and_true, false_and, and_false, true_or, or_true, false_or, or_false, and_self, or_self, not_false_eq_true, not_true_eq_false, false_implies, forall_const, true_implies, eq_self, ↓kI_s, ↓kJ_s, ↓kN_s, ↓kO_s, ↓kZ_s, ↓kE_s, oW_and, ↓bk_11031, ↓pn_i11031, oW_some, oW_none, oW_bind, oW_map, oW_ite, oW_bn, oW_gd, oW_oA, Sum.elim_inl, Sum.elim_inr, ↓kp_11031_7]
    exact hz
/-- NoThree$Painter.fewest(LNoThree$Town;I)I -/
noncomputable def F_8002_42 (tab : px_T) (x0 : Nat) (x2 : Int32) (x3 : Int32) (σ : px_M) : Option ((Int32 × px_M) ⊕ (Int32 × px_M)) := if (nI 11) ≤ x3 then (some (.inr (((nI 11), σ)))) else (gd (px_obj (px_lay tab x0) 8) ((((σ).2.2 x0 0)).bind fun n1 => (f_22000 tab σ n1 ((nI 0))).bind fun q2 => gd (px_obj (px_lay tab x0) 8) ((f_8003 tab q2 x0 x2 x3).bind fun r3 => gd (px_obj (px_lay tab x0) 8) ((f_8004 tab 24 q2 x0 r3 ((nI 0)) x3 ((nI 0))).bind fun q4 => if q4.1 = nI 0 then (some (.inl (((x3 + (nI 1)), q4.2)))) else (some (.inr ((x3, q4.2))))))))
noncomputable def f_8002_42 (tab : px_T) (x0 : Nat) (x2 : Int32) (x3 : Int32) (σ : px_M) : Option (Int32 × px_M) := lpO (fun s : Int32 × px_M => F_8002_42 tab x0 x2 s.1 s.2) (x3, σ)
theorem f_8002_42_eq (tab : px_T) (x0 : Nat) (x2 : Int32) (x3 : Int32) (σ : px_M) : f_8002_42 tab x0 x2 x3 σ = (F_8002_42 tab x0 x2 x3 σ).bind (Sum.elim (fun s => f_8002_42 tab x0 x2 s.1 s.2) some) := lpO_eq _ _
noncomputable def f_8002 (tab : px_T) (σ : px_M) (x0 : Nat) (x1 : Nat) (x2 : Int32) : Option (Int32 × px_M) := gd (px_obj (px_lay tab x0) 8) (bn (x2 = nI 0) (gd (px_obj (px_lay tab x0) 8) (((((px_wr σ x0 2 (some x1))).2.2 x0 2)).bind fun n1 => gd (px_obj (px_lay tab n1) 11) ((f_11016 tab (px_wr σ x0 2 (some x1)) n1 x2).bind fun r2 => bn ((r2 &&& x2) = nI 0) (gd (px_obj (px_lay tab x0) 8) (((((px_wr σ x0 2 (some x1))).2.2 x0 2)).bind fun n3 => gd (px_obj (px_lay tab n3) 11) ((f_11031 tab (px_wr σ x0 2 (some x1)) n3 x2).bind fun r4 => if r4 = (-1) then (f_8002_42 tab x0 x2 ((nI 3)) ((px_wr σ x0 2 (some x1)))) else (some (((nI 2), (px_wr σ x0 2 (some x1)))))))) (some (((nI 1), (px_wr σ x0 2 (some x1)))))))) (some (((nI 0), (px_wr σ x0 2 (some x1))))))
def Sg_8002 (g : px_M → Nat → Nat → Int32 → Option (Int32 × px_M)) : px_S := fun av σ k => px_r1 av (fun x0 av => px_r1 av (fun x1 av => px_i1 av (fun x2 av => av = [] ∧ oW (g σ x0 x1 x2) (fun q => k (some (.inl q.1)) q.2))))
def kp_8002_42 (Q : Nat → Int32 → Int32 → px_M → Prop) : px_P := fun ls st τ => st = [] ∧ kN ls (fun x0 ls => kZ ls (fun ls => kI ls (fun x2 ls => kI ls (fun x3 ls => kE ls (Q x0 x2 x3 τ)))))
theorem kq_8002_42 {C : px_C} {k : Option px_V → px_M → Prop} {Q : Nat → Int32 → Int32 → px_M → Prop} (H : ∀ (x0 : Nat) (x2 : Int32) (x3 : Int32) (τ : px_M), Q x0 x2 x3 τ → ∀ (z1 : Option px_V), px_W C k 42 [some (.inr (.inr (some x0))), z1, some (.inl x2), some (.inl x3)] [] τ) : ∀ ls st τ, kp_8002_42 Q ls st τ → px_W C k 42 ls st τ := by
  intro ls st τ hz
  obtain ⟨ez, h0⟩ := hz
  obtain ⟨x0, l0, e0, h1⟩ := kN_sp h0
  obtain ⟨z1, l1, e1, h2⟩ := kZ_sp h1
  obtain ⟨x2, l2, e2, h3⟩ := kI_sp h2
  obtain ⟨x3, l3, e3, h4⟩ := kI_sp h3
  obtain ⟨ey, hy⟩ := kE_sp h4
  subst ez
  subst ey
  subst e3
  subst e2
  subst e1
  subst e0
  exact H x0 x2 x3 τ hy z1
set_option maxHeartbeats 4000000 in
set_option maxRecDepth 100000 in
theorem rl_8002_42 {C : px_C} (hn : ((px_tb C).map Prod.fst).Nodup) {h : Nat} (hh : 27 ≤ h) (hC : px_ok C pn_i8002 h) {k : Option px_V → px_M → Prop} {x0 : Nat} {x2 : Int32} : ∀ s : Int32 × px_M, oW (f_8002_42 (px_tb C) x0 x2 s.1 s.2) (fun q => k (some (.inl q.1)) q.2) → (fun s : Int32 × px_M => ∀ (z1 : Option px_V), px_W C k 42 [some (.inr (.inr (some x0))), z1, some (.inl x2), some (.inl s.1)] [] s.2) s := by
  intro s h0
  refine lpO_sound (P := (fun s : Int32 × px_M => ∀ (z1 : Option px_V), px_W C k 42 [some (.inr (.inr (some x0))), z1, some (.inl x2), some (.inl s.1)] [] s.2)) (fun s hs => ?_) h0
  obtain ⟨x3, σ⟩ := s
  intro z1
  refine px_runG (h - 1) ck_8002 [(8003, Sg_8003 (f_8003 (px_tb C))), (8004, Sg_8004 (f_8004 (px_tb C) 24)), (22000, Sg_22000 (f_22000 (px_tb C)))] [(42, kp_8002_42 (fun y0 y2 y3 τ => y0 = x0 ∧ y2 = x2 ∧ (fun s : Int32 × px_M => ∀ (z1 : Option px_V), px_W C k 42 [some (.inr (.inr (some x0))), z1, some (.inl x2), some (.inl s.1)] [] s.2) (y3, τ)))] 80 hC (px_sp1 (mf_8003 hn (by omega)) (px_sp1 (mf_8004 hn (by omega)) (px_sp1 (mf_22000 hn (by omega)) px_nosp))) (by omega) (px_cut1 (kq_8002_42 (fun y0 y2 y3 τ hq => by obtain ⟨rfl, rfl, hq⟩ := hq; exact hq)) px_nocut) (fun G Jf hG hJf => ?_)
  simp only [F_8002_42, oW_some, oW_none, oW_bind, oW_map, oW_ite, oW_bn, oW_gd, oW_oA, Sum.elim_inl, Sum.elim_inr, oW_and, true_and, and_true, false_and, and_false, true_or, or_true, false_or, or_false, and_self, or_self, not_false_eq_true, not_true_eq_false, false_implies, forall_const, true_implies, eq_self, ↓reduceIte] at hs
  simp only [↓hG, ↓hJf, ↓px_vc, ↓px_ex, ↓px_jp, ↓px_gi, ↓px_gl, ↓px_gr, ↓px_s1, ↓px_s2, ↓px_nl, ↓px_i1, ↓px_l1, ↓px_r1_o, ↓px_q1, ↓px_i2, ↓px_l2, ↓px_il, ↓px_d0, ↓px_d1, ↓px_d2, ↓px_pop, px_sz, ↓px_sp, ↓px_rd, ↓px_pt, ↓px_rok, ↓px_rv_o, ↓px_fill, ↓px_sl, ↓px_sw, ↓pn_SW, lc_lt, lc_ge, lc_gt, lc_le, lc_eq, ↓reduceIte, Nat.reduceEqDiff, Nat.reduceLeDiff, Nat.reduceAdd, Nat.reduceSub, reduceCtorEq, List.length_cons, List.length_nil, Option.toList_some, Option.toList_none, List.cons_append, List.nil_append, true_and, and_true, false_and, and_false, true_or, or_true, false_or, or_false, and_self, or_self, not_false_eq_true, not_true_eq_false, false_implies, forall_const, true_implies, eq_self, ↓kI_s, ↓kJ_s, ↓kN_s, ↓kO_s, ↓kZ_s, ↓kE_s, oW_and, ↓bk_8002, ↓pn_i8002, oW_some, oW_none, oW_bind, oW_map, oW_ite, oW_bn, oW_gd, oW_oA, Sum.elim_inl, Sum.elim_inr, ↓Sg_8003, ↓Sg_8004, ↓Sg_22000, ↓kp_8002_42]
  exact hs
set_option maxHeartbeats 4000000 in
set_option maxRecDepth 100000 in
theorem mf_8002 {tab : px_T} (hn : (tab.map Prod.fst).Nodup) {h : Nat} (hh : 27 ≤ h) : px_Ok tab pn_i8002 h (Sg_8002 (f_8002 tab)) := by
  refine px_mth hn (by decide +kernel) (fun av σ k hS => ?_) (fun C hT hC av σ k hS => ?_)
  · obtain ⟨x0, av0, e0, h0⟩ := px_r1_spec hS
    obtain ⟨x1, av1, e1, h1⟩ := px_r1_spec h0
    obtain ⟨x2, av2, e2, h2⟩ := px_i1_spec h1
    obtain ⟨ez, hz⟩ := h2
    subst ez
    subst e2
    subst e1
    subst e0
    exact Nat.le_of_ble_eq_true rfl
  · obtain ⟨x0, av0, e0, h0⟩ := px_r1_spec hS
    obtain ⟨x1, av1, e1, h1⟩ := px_r1_spec h0
    obtain ⟨x2, av2, e2, h2⟩ := px_i1_spec h1
    obtain ⟨ez, hz⟩ := h2
    subst ez
    subst e2
    subst e1
    subst e0
    subst hT
    refine px_runG (h - 1) ck_8002 [(11016, Sg_11016 (f_11016 (px_tb C))), (11031, Sg_11031 (f_11031 (px_tb C)))] [(42, kp_8002_42 (fun y0 y2 y3 τ => oW (f_8002_42 (px_tb C) y0 y2 y3 τ) (fun q => k (some (.inl q.1)) q.2)))] 80 hC (px_sp1 (mf_11016 hn (by omega)) (px_sp1 (mf_11031 hn (by omega)) px_nosp)) (by omega) (px_cut1 (kq_8002_42 (fun y0 y2 y3 τ hq => by exact rl_8002_42 hn (by omega) hC (y3, τ) hq)) px_nocut) (fun G Jf hG hJf => ?_)
    simp only [f_8002, oW_some, oW_none, oW_bind, oW_map, oW_ite, oW_bn, oW_gd, oW_oA, Sum.elim_inl, Sum.elim_inr, oW_and, true_and, and_true, false_and, and_false, true_or, or_true, false_or, or_false, and_self, or_self, not_false_eq_true, not_true_eq_false, false_implies, forall_const, true_implies, eq_self, ↓reduceIte] at hz
    simp only [↓hG, ↓hJf, ↓px_vc, ↓px_ex, ↓px_jp, ↓px_gi, ↓px_gl, ↓px_gr, ↓px_s1, ↓px_s2, ↓px_nl, ↓px_i1, ↓px_l1, ↓px_r1_o, ↓px_q1, ↓px_i2, ↓px_l2, ↓px_il, ↓px_d0, ↓px_d1, ↓px_d2, ↓px_pop, px_sz, ↓px_sp, ↓px_rd, ↓px_pt, ↓px_rok, ↓px_rv_o, ↓px_fill, ↓px_sl, ↓px_sw, ↓pn_SW, lc_lt, lc_ge, lc_gt, lc_le, lc_eq, ↓reduceIte, Nat.reduceEqDiff, Nat.reduceLeDiff, Nat.reduceAdd, Nat.reduceSub, reduceCtorEq, List.length_cons, List.length_nil, Option.toList_some, Option.toList_none, List.cons_append, List.nil_append, true_and, and_true, false_and, and_false, true_or, or_true, false_or, or_false, and_self, or_self, not_false_eq_true, not_true_eq_false, false_implies, forall_const, true_implies, eq_self, ↓kI_s, ↓kJ_s, ↓kN_s, ↓kO_s, ↓kZ_s, ↓kE_s, oW_and, ↓bk_8002, ↓pn_i8002, oW_some, oW_none, oW_bind, oW_map, oW_ite, oW_bn, oW_gd, oW_oA, Sum.elim_inl, Sum.elim_inr, ↓Sg_11016, ↓Sg_11031, ↓kp_8002_42]
    exact hz
/-- NoThree$Town.doors()I -/
noncomputable def F_11015_4 (tab : px_T) (σ : px_M) (x0 : Nat) (x1 : Int32) (x2 : Int32) : Option ((Int32 × Int32) ⊕ (Int32)) := gd (px_obj (px_lay tab x0) 11) (if ((σ).1 x0 0) ≤ x2 then (gd (¬ (nI 2) = nI 0) (some (.inr ((x1 / (nI 2)))))) else (gd (px_obj (px_lay tab x0) 11) ((((σ).2.2 x0 1)).bind fun n1 => oA (px_lay tab n1) fun t2 l3 => gd (t2 = 0) (gd (vp_in x2 l3) ((f_21000 tab σ (((σ).1 n1 (x2).toNatClampNeg))).bind fun r4 => some (.inl (((x1 + r4), (x2 + (nI 1))))))))))
noncomputable def f_11015_4 (tab : px_T) (σ : px_M) (x0 : Nat) (x1 : Int32) (x2 : Int32) : Option (Int32) := lpO (fun s : Int32 × Int32 => F_11015_4 tab σ x0 s.1 s.2) (x1, x2)
theorem f_11015_4_eq (tab : px_T) (σ : px_M) (x0 : Nat) (x1 : Int32) (x2 : Int32) : f_11015_4 tab σ x0 x1 x2 = (F_11015_4 tab σ x0 x1 x2).bind (Sum.elim (fun s => f_11015_4 tab σ x0 s.1 s.2) some) := lpO_eq _ _
noncomputable def f_11015 (tab : px_T) (σ : px_M) (x0 : Nat) : Option (Int32) := f_11015_4 tab σ x0 ((nI 0)) ((nI 0))
def Sg_11015 (g : px_M → Nat → Option (Int32)) : px_S := fun av σ k => px_r1 av (fun x0 av => av = [] ∧ oW (g σ x0) (fun r => k (some (.inl r)) σ))
def kp_11015_4 (Q : Nat → Int32 → Int32 → px_M → Prop) : px_P := fun ls st τ => st = [] ∧ kN ls (fun x0 ls => kI ls (fun x1 ls => kI ls (fun x2 ls => kE ls (Q x0 x1 x2 τ))))
theorem kq_11015_4 {C : px_C} {k : Option px_V → px_M → Prop} {Q : Nat → Int32 → Int32 → px_M → Prop} (H : ∀ (x0 : Nat) (x1 : Int32) (x2 : Int32) (τ : px_M), Q x0 x1 x2 τ → px_W C k 4 [some (.inr (.inr (some x0))), some (.inl x1), some (.inl x2)] [] τ) : ∀ ls st τ, kp_11015_4 Q ls st τ → px_W C k 4 ls st τ := by
  intro ls st τ hz
  obtain ⟨ez, h0⟩ := hz
  obtain ⟨x0, l0, e0, h1⟩ := kN_sp h0
  obtain ⟨x1, l1, e1, h2⟩ := kI_sp h1
  obtain ⟨x2, l2, e2, h3⟩ := kI_sp h2
  obtain ⟨ey, hy⟩ := kE_sp h3
  subst ez
  subst ey
  subst e2
  subst e1
  subst e0
  exact H x0 x1 x2 τ hy
set_option maxHeartbeats 4000000 in
set_option maxRecDepth 100000 in
theorem rl_11015_4 {C : px_C} (hn : ((px_tb C).map Prod.fst).Nodup) {h : Nat} (hh : 2 ≤ h) (hC : px_ok C pn_i11015 h) {k : Option px_V → px_M → Prop} {x0 : Nat} {σ : px_M} : ∀ s : Int32 × Int32, oW (f_11015_4 (px_tb C) σ x0 s.1 s.2) (fun r => k (some (.inl r)) σ) → (fun s : Int32 × Int32 => px_W C k 4 [some (.inr (.inr (some x0))), some (.inl s.1), some (.inl s.2)] [] σ) s := by
  intro s h0
  refine lpO_sound (P := (fun s : Int32 × Int32 => px_W C k 4 [some (.inr (.inr (some x0))), some (.inl s.1), some (.inl s.2)] [] σ)) (fun s hs => ?_) h0
  obtain ⟨x1, x2⟩ := s
  refine px_runG (h - 1) ck_11015 [(21000, Sg_21000 (f_21000 (px_tb C)))] [(4, kp_11015_4 (fun y0 y1 y2 τ => y0 = x0 ∧ τ = σ ∧ (fun s : Int32 × Int32 => px_W C k 4 [some (.inr (.inr (some x0))), some (.inl s.1), some (.inl s.2)] [] σ) (y1, y2)))] 80 hC (px_sp1 (mf_21000 hn (by omega)) px_nosp) (by omega) (px_cut1 (kq_11015_4 (fun y0 y1 y2 τ hq => by obtain ⟨rfl, rfl, hq⟩ := hq; exact hq)) px_nocut) (fun G Jf hG hJf => ?_)
  simp only [F_11015_4, oW_some, oW_none, oW_bind, oW_map, oW_ite, oW_bn, oW_gd, oW_oA, Sum.elim_inl, Sum.elim_inr, oW_and, true_and, and_true, false_and, and_false, true_or, or_true, false_or, or_false, and_self, or_self, not_false_eq_true, not_true_eq_false, false_implies, forall_const, true_implies, eq_self, ↓reduceIte] at hs
  simp only [↓hG, ↓hJf, ↓px_vc, ↓px_ex, ↓px_jp, ↓px_gi, ↓px_gl, ↓px_gr, ↓px_s1, ↓px_s2, ↓px_nl, ↓px_i1, ↓px_l1, ↓px_r1_o, ↓px_q1, ↓px_i2, ↓px_l2, ↓px_il, ↓px_d0, ↓px_d1, ↓px_d2, ↓px_pop, px_sz, ↓px_sp, ↓px_rd, ↓px_pt, ↓px_rok, ↓px_rv_o, ↓px_fill, ↓px_sl, ↓px_sw, ↓pn_SW, lc_lt, lc_ge, lc_gt, lc_le, lc_eq, ↓reduceIte, Nat.reduceEqDiff, Nat.reduceLeDiff, Nat.reduceAdd, Nat.reduceSub, reduceCtorEq, List.length_cons, List.length_nil, Option.toList_some, Option.toList_none, List.cons_append, List.nil_append, true_and, and_true, false_and, and_false, true_or, or_true, false_or, or_false, and_self, or_self, not_false_eq_true, not_true_eq_false, false_implies, forall_const, true_implies, eq_self, ↓kI_s, ↓kJ_s, ↓kN_s, ↓kO_s, ↓kZ_s, ↓kE_s, oW_and, ↓bk_11015, ↓pn_i11015, oW_some, oW_none, oW_bind, oW_map, oW_ite, oW_bn, oW_gd, oW_oA, Sum.elim_inl, Sum.elim_inr, ↓Sg_21000, ↓kp_11015_4]
  exact hs
set_option maxHeartbeats 4000000 in
set_option maxRecDepth 100000 in
theorem mf_11015 {tab : px_T} (hn : (tab.map Prod.fst).Nodup) {h : Nat} (hh : 2 ≤ h) : px_Ok tab pn_i11015 h (Sg_11015 (f_11015 tab)) := by
  refine px_mth hn (by decide +kernel) (fun av σ k hS => ?_) (fun C hT hC av σ k hS => ?_)
  · obtain ⟨x0, av0, e0, h0⟩ := px_r1_spec hS
    obtain ⟨ez, hz⟩ := h0
    subst ez
    subst e0
    exact Nat.le_of_ble_eq_true rfl
  · obtain ⟨x0, av0, e0, h0⟩ := px_r1_spec hS
    obtain ⟨ez, hz⟩ := h0
    subst ez
    subst e0
    subst hT
    refine px_runG (h - 1) ck_11015 [] [(4, kp_11015_4 (fun y0 y1 y2 τ => τ = σ ∧ oW (f_11015_4 (px_tb C) τ y0 y1 y2) (fun r => k (some (.inl r)) σ)))] 80 hC px_nosp (by omega) (px_cut1 (kq_11015_4 (fun y0 y1 y2 τ hq => by obtain ⟨rfl, hq⟩ := hq; exact rl_11015_4 hn (by omega) hC (y1, y2) hq)) px_nocut) (fun G Jf hG hJf => ?_)
    simp only [f_11015, oW_some, oW_none, oW_bind, oW_map, oW_ite, oW_bn, oW_gd, oW_oA, Sum.elim_inl, Sum.elim_inr, oW_and, true_and, and_true, false_and, and_false, true_or, or_true, false_or, or_false, and_self, or_self, not_false_eq_true, not_true_eq_false, false_implies, forall_const, true_implies, eq_self, ↓reduceIte] at hz
    simp only [↓hG, ↓hJf, ↓px_vc, ↓px_ex, ↓px_jp, ↓px_gi, ↓px_gl, ↓px_gr, ↓px_s1, ↓px_s2, ↓px_nl, ↓px_i1, ↓px_l1, ↓px_r1_o, ↓px_q1, ↓px_i2, ↓px_l2, ↓px_il, ↓px_d0, ↓px_d1, ↓px_d2, ↓px_pop, px_sz, ↓px_sp, ↓px_rd, ↓px_pt, ↓px_rok, ↓px_rv_o, ↓px_fill, ↓px_sl, ↓px_sw, ↓pn_SW, lc_lt, lc_ge, lc_gt, lc_le, lc_eq, ↓reduceIte, Nat.reduceEqDiff, Nat.reduceLeDiff, Nat.reduceAdd, Nat.reduceSub, reduceCtorEq, List.length_cons, List.length_nil, Option.toList_some, Option.toList_none, List.cons_append, List.nil_append, true_and, and_true, false_and, and_false, true_or, or_true, false_or, or_false, and_self, or_self, not_false_eq_true, not_true_eq_false, false_implies, forall_const, true_implies, eq_self, ↓kI_s, ↓kJ_s, ↓kN_s, ↓kO_s, ↓kZ_s, ↓kE_s, oW_and, ↓bk_11015, ↓pn_i11015, oW_some, oW_none, oW_bind, oW_map, oW_ite, oW_bn, oW_gd, oW_oA, Sum.elim_inl, Sum.elim_inr, ↓kp_11015_4]
    exact hz
/-- NoThree$Council.findMeanings(I)V -/
noncomputable def f_2010_242 (tab : px_T) (σ : px_M) (x0 : Nat) (x2 : Int32) (x3 : Int32) : Option ((Int32 × px_M) ⊕ (px_M)) := some (.inl (((x3 + (nI 1)), σ)))
noncomputable def F_2010_203 (tab : px_T) (x0 : Nat) (x2 : Int32) (x3 : Int32) (x4 : Int32) (x5 : Int32) (σ : px_M) : Option ((Int32 × px_M) ⊕ ((Int32 × px_M) ⊕ (px_M))) := gd (px_obj (px_lay tab x0) 2) ((((σ).2.2 x0 7)).bind fun n1 => gd (px_obj (px_lay tab n1) 11) (if ((σ).1 n1 0) ≤ x5 then (Option.map Sum.inr (f_2010_242 tab σ x0 x2 x3)) else (gd (px_obj (px_lay tab x0) 2) (gd (px_obj (px_lay tab x0) 2) ((f_2011 tab σ x0 (((nI 1000) + x3)) x5).bind fun r2 => (((σ).2.2 x0 4)).bind fun n3 => oA (px_lay tab n3) fun t4 l5 => gd (t4 = 0) (gd (vp_in (x4 + x5) l5) (some (.inl (((x5 + (nI 1)), (px_wi σ n3 ((x4 + x5)).toNatClampNeg r2)))))))))))
noncomputable def f_2010_203 (tab : px_T) (x0 : Nat) (x2 : Int32) (x3 : Int32) (x4 : Int32) (x5 : Int32) (σ : px_M) : Option ((Int32 × px_M) ⊕ (px_M)) := lpO (fun s : Int32 × px_M => F_2010_203 tab x0 x2 x3 x4 s.1 s.2) (x5, σ)
theorem f_2010_203_eq (tab : px_T) (x0 : Nat) (x2 : Int32) (x3 : Int32) (x4 : Int32) (x5 : Int32) (σ : px_M) : f_2010_203 tab x0 x2 x3 x4 x5 σ = (F_2010_203 tab x0 x2 x3 x4 x5 σ).bind (Sum.elim (fun s => f_2010_203 tab x0 x2 x3 x4 s.1 s.2) some) := lpO_eq _ _
noncomputable def f_2010_200 (tab : px_T) (σ : px_M) (x0 : Nat) (x2 : Int32) (x3 : Int32) (x4 : Int32) : Option ((Int32 × px_M) ⊕ (px_M)) := f_2010_203 tab x0 x2 x3 x4 ((nI 0)) σ
noncomputable def f_2010_167 (tab : px_T) (σ : px_M) (x0 : Nat) (x2 : Int32) (x3 : Int32) (x4 : Int32) : Option ((Int32 × px_M) ⊕ (px_M)) := gd (px_obj (px_lay tab x0) 2) (gd (px_obj (px_lay tab x0) 2) (gd (px_obj (px_lay tab x0) 2) ((((σ).2.2 x0 7)).bind fun n1 => gd (px_obj (px_lay tab n1) 11) ((f_11004 tab σ n1).bind fun r2 => (((σ).2.2 x0 7)).bind fun n3 => gd (px_obj (px_lay tab n3) 11) ((f_11031 tab σ n3 r2).bind fun r4 => bn (r4 = (-1)) ((((σ).2.2 x0 4)).bind fun n5 => oA (px_lay tab n5) fun t6 l7 => gd (t6 = 0) (gd (vp_in x4 l7) (f_2010_242 tab ((px_wi σ n5 (x4).toNatClampNeg (nI 1))) x0 x2 x3))) ((((σ).2.2 x0 4)).bind fun n8 => oA (px_lay tab n8) fun t9 l10 => gd (t9 = 0) (gd (vp_in x4 l10) (f_2010_242 tab ((px_wi σ n8 (x4).toNatClampNeg (nI 0))) x0 x2 x3))))))))
noncomputable def f_2010_139 (tab : px_T) (σ : px_M) (x0 : Nat) (x2 : Int32) (x3 : Int32) (x4 : Int32) : Option ((Int32 × px_M) ⊕ (px_M)) := gd (px_obj (px_lay tab x0) 2) (gd (px_obj (px_lay tab x0) 2) (gd (px_obj (px_lay tab x0) 2) (gd (px_obj (px_lay tab x0) 2) ((((σ).2.2 x0 7)).bind fun n1 => gd (px_obj (px_lay tab n1) 11) ((f_11004 tab σ n1).bind fun r2 => (((σ).2.2 x0 0)).bind fun n3 => gd (px_obj (px_lay tab n3) 8) ((((σ).2.2 x0 7)).bind fun n4 => (f_8002 tab σ n3 n4 r2).bind fun q5 => (((σ).2.2 x0 4)).bind fun n6 => oA (px_lay tab n6) fun t7 l8 => gd (t7 = 0) (gd (vp_in x4 l8) (f_2010_242 tab ((px_wi q5.2 n6 (x4).toNatClampNeg q5.1)) x0 x2 x3))))))))
noncomputable def f_2010_122 (tab : px_T) (σ : px_M) (x0 : Nat) (x2 : Int32) (x3 : Int32) (x4 : Int32) : Option ((Int32 × px_M) ⊕ (px_M)) := gd (px_obj (px_lay tab x0) 2) (gd (px_obj (px_lay tab x0) 2) ((((σ).2.2 x0 7)).bind fun n1 => (f_3008 tab σ n1).bind fun r2 => (((σ).2.2 x0 4)).bind fun n3 => oA (px_lay tab n3) fun t4 l5 => gd (t4 = 0) (gd (vp_in x4 l5) (f_2010_242 tab ((px_wi σ n3 (x4).toNatClampNeg r2)) x0 x2 x3))))
noncomputable def f_2010_105 (tab : px_T) (σ : px_M) (x0 : Nat) (x2 : Int32) (x3 : Int32) (x4 : Int32) : Option ((Int32 × px_M) ⊕ (px_M)) := gd (px_obj (px_lay tab x0) 2) (gd (px_obj (px_lay tab x0) 2) ((((σ).2.2 x0 7)).bind fun n1 => gd (px_obj (px_lay tab n1) 11) ((f_11015 tab σ n1).bind fun r2 => (((σ).2.2 x0 4)).bind fun n3 => oA (px_lay tab n3) fun t4 l5 => gd (t4 = 0) (gd (vp_in x4 l5) (f_2010_242 tab ((px_wi σ n3 (x4).toNatClampNeg r2)) x0 x2 x3)))))
noncomputable def f_2010_88 (tab : px_T) (σ : px_M) (x0 : Nat) (x2 : Int32) (x3 : Int32) (x4 : Int32) : Option ((Int32 × px_M) ⊕ (px_M)) := gd (px_obj (px_lay tab x0) 2) (gd (px_obj (px_lay tab x0) 2) ((((σ).2.2 x0 7)).bind fun n1 => gd (px_obj (px_lay tab n1) 11) ((((σ).2.2 x0 4)).bind fun n2 => oA (px_lay tab n2) fun t3 l4 => gd (t3 = 0) (gd (vp_in x4 l4) (f_2010_242 tab ((px_wi σ n2 (x4).toNatClampNeg ((σ).1 n1 0))) x0 x2 x3)))))
noncomputable def F_2010_21 (tab : px_T) (x0 : Nat) (x2 : Int32) (x3 : Int32) (σ : px_M) : Option ((Int32 × px_M) ⊕ (px_M)) := if (nI 9) ≤ x3 then (some (.inr (σ))) else (if x2 = nI 0 then (some (.inr (σ))) else (bn ((x2 &&& ((nI 1) <<< (x3 &&& 31))) = nI 0) ((if ((nI 1000) + x3) = nI 1004 then (f_2010_88 tab σ x0 x2 x3 ((x3 * (nI 11)))) else (if ((nI 1000) + x3) = nI 1005 then (f_2010_105 tab σ x0 x2 x3 ((x3 * (nI 11)))) else (if ((nI 1000) + x3) = nI 1006 then (f_2010_122 tab σ x0 x2 x3 ((x3 * (nI 11)))) else (if ((nI 1000) + x3) = nI 1007 then (f_2010_139 tab σ x0 x2 x3 ((x3 * (nI 11)))) else (if ((nI 1000) + x3) = nI 1008 then (f_2010_167 tab σ x0 x2 x3 ((x3 * (nI 11)))) else (f_2010_200 tab σ x0 x2 x3 ((x3 * (nI 11)))))))))) (f_2010_242 tab σ x0 x2 x3)))
noncomputable def f_2010_21 (tab : px_T) (x0 : Nat) (x2 : Int32) (x3 : Int32) (σ : px_M) : Option (px_M) := lpO (fun s : Int32 × px_M => F_2010_21 tab x0 x2 s.1 s.2) (x3, σ)
theorem f_2010_21_eq (tab : px_T) (x0 : Nat) (x2 : Int32) (x3 : Int32) (σ : px_M) : f_2010_21 tab x0 x2 x3 σ = (F_2010_21 tab x0 x2 x3 σ).bind (Sum.elim (fun s => f_2010_21 tab x0 x2 s.1 s.2) some) := lpO_eq _ _
noncomputable def f_2010 (tab : px_T) (σ : px_M) (x0 : Nat) (x1 : Int32) : Option (px_M) := gd (px_obj (px_lay tab x0) 2) (gd (px_obj (px_lay tab x0) 2) (gd (px_obj (px_lay tab x0) 2) (f_2010_21 tab x0 ((x1 &&& (((σ).1 x0 8) ^^^ (-1)))) ((nI 0)) ((px_wi σ x0 8 (((σ).1 x0 8) ||| x1))))))
def Sg_2010 (g : px_M → Nat → Int32 → Option (px_M)) : px_S := fun av σ k => px_r1 av (fun x0 av => px_i1 av (fun x1 av => av = [] ∧ oW (g σ x0 x1) (fun τ => k none τ)))
def kp_2010_242 (Q : Nat → Int32 → Int32 → px_M → Prop) : px_P := fun ls st τ => st = [] ∧ kN ls (fun x0 ls => kZ ls (fun ls => kI ls (fun x2 ls => kI ls (fun x3 ls => kZ ls (fun ls => kZ ls (fun ls => kE ls (Q x0 x2 x3 τ)))))))
theorem kq_2010_242 {C : px_C} {k : Option px_V → px_M → Prop} {Q : Nat → Int32 → Int32 → px_M → Prop} (H : ∀ (x0 : Nat) (x2 : Int32) (x3 : Int32) (τ : px_M), Q x0 x2 x3 τ → ∀ (z1 : Option px_V) (z4 : Option px_V) (z5 : Option px_V), px_W C k 242 [some (.inr (.inr (some x0))), z1, some (.inl x2), some (.inl x3), z4, z5] [] τ) : ∀ ls st τ, kp_2010_242 Q ls st τ → px_W C k 242 ls st τ := by
  intro ls st τ hz
  obtain ⟨ez, h0⟩ := hz
  obtain ⟨x0, l0, e0, h1⟩ := kN_sp h0
  obtain ⟨z1, l1, e1, h2⟩ := kZ_sp h1
  obtain ⟨x2, l2, e2, h3⟩ := kI_sp h2
  obtain ⟨x3, l3, e3, h4⟩ := kI_sp h3
  obtain ⟨z4, l4, e4, h5⟩ := kZ_sp h4
  obtain ⟨z5, l5, e5, h6⟩ := kZ_sp h5
  obtain ⟨ey, hy⟩ := kE_sp h6
  subst ez
  subst ey
  subst e5
  subst e4
  subst e3
  subst e2
  subst e1
  subst e0
  exact H x0 x2 x3 τ hy z1 z4 z5
def kp_2010_203 (Q : Nat → Int32 → Int32 → Int32 → Int32 → px_M → Prop) : px_P := fun ls st τ => st = [] ∧ kN ls (fun x0 ls => kZ ls (fun ls => kI ls (fun x2 ls => kI ls (fun x3 ls => kI ls (fun x4 ls => kI ls (fun x5 ls => kE ls (Q x0 x2 x3 x4 x5 τ)))))))
theorem kq_2010_203 {C : px_C} {k : Option px_V → px_M → Prop} {Q : Nat → Int32 → Int32 → Int32 → Int32 → px_M → Prop} (H : ∀ (x0 : Nat) (x2 : Int32) (x3 : Int32) (x4 : Int32) (x5 : Int32) (τ : px_M), Q x0 x2 x3 x4 x5 τ → ∀ (z1 : Option px_V), px_W C k 203 [some (.inr (.inr (some x0))), z1, some (.inl x2), some (.inl x3), some (.inl x4), some (.inl x5)] [] τ) : ∀ ls st τ, kp_2010_203 Q ls st τ → px_W C k 203 ls st τ := by
  intro ls st τ hz
  obtain ⟨ez, h0⟩ := hz
  obtain ⟨x0, l0, e0, h1⟩ := kN_sp h0
  obtain ⟨z1, l1, e1, h2⟩ := kZ_sp h1
  obtain ⟨x2, l2, e2, h3⟩ := kI_sp h2
  obtain ⟨x3, l3, e3, h4⟩ := kI_sp h3
  obtain ⟨x4, l4, e4, h5⟩ := kI_sp h4
  obtain ⟨x5, l5, e5, h6⟩ := kI_sp h5
  obtain ⟨ey, hy⟩ := kE_sp h6
  subst ez
  subst ey
  subst e5
  subst e4
  subst e3
  subst e2
  subst e1
  subst e0
  exact H x0 x2 x3 x4 x5 τ hy z1
def kp_2010_200 (Q : Nat → Int32 → Int32 → Int32 → px_M → Prop) : px_P := fun ls st τ => st = [] ∧ kN ls (fun x0 ls => kZ ls (fun ls => kI ls (fun x2 ls => kI ls (fun x3 ls => kI ls (fun x4 ls => kZ ls (fun ls => kE ls (Q x0 x2 x3 x4 τ)))))))
theorem kq_2010_200 {C : px_C} {k : Option px_V → px_M → Prop} {Q : Nat → Int32 → Int32 → Int32 → px_M → Prop} (H : ∀ (x0 : Nat) (x2 : Int32) (x3 : Int32) (x4 : Int32) (τ : px_M), Q x0 x2 x3 x4 τ → ∀ (z1 : Option px_V) (z5 : Option px_V), px_W C k 200 [some (.inr (.inr (some x0))), z1, some (.inl x2), some (.inl x3), some (.inl x4), z5] [] τ) : ∀ ls st τ, kp_2010_200 Q ls st τ → px_W C k 200 ls st τ := by
  intro ls st τ hz
  obtain ⟨ez, h0⟩ := hz
  obtain ⟨x0, l0, e0, h1⟩ := kN_sp h0
  obtain ⟨z1, l1, e1, h2⟩ := kZ_sp h1
  obtain ⟨x2, l2, e2, h3⟩ := kI_sp h2
  obtain ⟨x3, l3, e3, h4⟩ := kI_sp h3
  obtain ⟨x4, l4, e4, h5⟩ := kI_sp h4
  obtain ⟨z5, l5, e5, h6⟩ := kZ_sp h5
  obtain ⟨ey, hy⟩ := kE_sp h6
  subst ez
  subst ey
  subst e5
  subst e4
  subst e3
  subst e2
  subst e1
  subst e0
  exact H x0 x2 x3 x4 τ hy z1 z5
def kp_2010_167 (Q : Nat → Int32 → Int32 → Int32 → px_M → Prop) : px_P := fun ls st τ => st = [] ∧ kN ls (fun x0 ls => kZ ls (fun ls => kI ls (fun x2 ls => kI ls (fun x3 ls => kI ls (fun x4 ls => kZ ls (fun ls => kE ls (Q x0 x2 x3 x4 τ)))))))
theorem kq_2010_167 {C : px_C} {k : Option px_V → px_M → Prop} {Q : Nat → Int32 → Int32 → Int32 → px_M → Prop} (H : ∀ (x0 : Nat) (x2 : Int32) (x3 : Int32) (x4 : Int32) (τ : px_M), Q x0 x2 x3 x4 τ → ∀ (z1 : Option px_V) (z5 : Option px_V), px_W C k 167 [some (.inr (.inr (some x0))), z1, some (.inl x2), some (.inl x3), some (.inl x4), z5] [] τ) : ∀ ls st τ, kp_2010_167 Q ls st τ → px_W C k 167 ls st τ := by
  intro ls st τ hz
  obtain ⟨ez, h0⟩ := hz
  obtain ⟨x0, l0, e0, h1⟩ := kN_sp h0
  obtain ⟨z1, l1, e1, h2⟩ := kZ_sp h1
  obtain ⟨x2, l2, e2, h3⟩ := kI_sp h2
  obtain ⟨x3, l3, e3, h4⟩ := kI_sp h3
  obtain ⟨x4, l4, e4, h5⟩ := kI_sp h4
  obtain ⟨z5, l5, e5, h6⟩ := kZ_sp h5
  obtain ⟨ey, hy⟩ := kE_sp h6
  subst ez
  subst ey
  subst e5
  subst e4
  subst e3
  subst e2
  subst e1
  subst e0
  exact H x0 x2 x3 x4 τ hy z1 z5
def kp_2010_139 (Q : Nat → Int32 → Int32 → Int32 → px_M → Prop) : px_P := fun ls st τ => st = [] ∧ kN ls (fun x0 ls => kZ ls (fun ls => kI ls (fun x2 ls => kI ls (fun x3 ls => kI ls (fun x4 ls => kZ ls (fun ls => kE ls (Q x0 x2 x3 x4 τ)))))))
theorem kq_2010_139 {C : px_C} {k : Option px_V → px_M → Prop} {Q : Nat → Int32 → Int32 → Int32 → px_M → Prop} (H : ∀ (x0 : Nat) (x2 : Int32) (x3 : Int32) (x4 : Int32) (τ : px_M), Q x0 x2 x3 x4 τ → ∀ (z1 : Option px_V) (z5 : Option px_V), px_W C k 139 [some (.inr (.inr (some x0))), z1, some (.inl x2), some (.inl x3), some (.inl x4), z5] [] τ) : ∀ ls st τ, kp_2010_139 Q ls st τ → px_W C k 139 ls st τ := by
  intro ls st τ hz
  obtain ⟨ez, h0⟩ := hz
  obtain ⟨x0, l0, e0, h1⟩ := kN_sp h0
  obtain ⟨z1, l1, e1, h2⟩ := kZ_sp h1
  obtain ⟨x2, l2, e2, h3⟩ := kI_sp h2
  obtain ⟨x3, l3, e3, h4⟩ := kI_sp h3
  obtain ⟨x4, l4, e4, h5⟩ := kI_sp h4
  obtain ⟨z5, l5, e5, h6⟩ := kZ_sp h5
  obtain ⟨ey, hy⟩ := kE_sp h6
  subst ez
  subst ey
  subst e5
  subst e4
  subst e3
  subst e2
  subst e1
  subst e0
  exact H x0 x2 x3 x4 τ hy z1 z5
def kp_2010_122 (Q : Nat → Int32 → Int32 → Int32 → px_M → Prop) : px_P := fun ls st τ => st = [] ∧ kN ls (fun x0 ls => kZ ls (fun ls => kI ls (fun x2 ls => kI ls (fun x3 ls => kI ls (fun x4 ls => kZ ls (fun ls => kE ls (Q x0 x2 x3 x4 τ)))))))
theorem kq_2010_122 {C : px_C} {k : Option px_V → px_M → Prop} {Q : Nat → Int32 → Int32 → Int32 → px_M → Prop} (H : ∀ (x0 : Nat) (x2 : Int32) (x3 : Int32) (x4 : Int32) (τ : px_M), Q x0 x2 x3 x4 τ → ∀ (z1 : Option px_V) (z5 : Option px_V), px_W C k 122 [some (.inr (.inr (some x0))), z1, some (.inl x2), some (.inl x3), some (.inl x4), z5] [] τ) : ∀ ls st τ, kp_2010_122 Q ls st τ → px_W C k 122 ls st τ := by
  intro ls st τ hz
  obtain ⟨ez, h0⟩ := hz
  obtain ⟨x0, l0, e0, h1⟩ := kN_sp h0
  obtain ⟨z1, l1, e1, h2⟩ := kZ_sp h1
  obtain ⟨x2, l2, e2, h3⟩ := kI_sp h2
  obtain ⟨x3, l3, e3, h4⟩ := kI_sp h3
  obtain ⟨x4, l4, e4, h5⟩ := kI_sp h4
  obtain ⟨z5, l5, e5, h6⟩ := kZ_sp h5
  obtain ⟨ey, hy⟩ := kE_sp h6
  subst ez
  subst ey
  subst e5
  subst e4
  subst e3
  subst e2
  subst e1
  subst e0
  exact H x0 x2 x3 x4 τ hy z1 z5
def kp_2010_105 (Q : Nat → Int32 → Int32 → Int32 → px_M → Prop) : px_P := fun ls st τ => st = [] ∧ kN ls (fun x0 ls => kZ ls (fun ls => kI ls (fun x2 ls => kI ls (fun x3 ls => kI ls (fun x4 ls => kZ ls (fun ls => kE ls (Q x0 x2 x3 x4 τ)))))))
theorem kq_2010_105 {C : px_C} {k : Option px_V → px_M → Prop} {Q : Nat → Int32 → Int32 → Int32 → px_M → Prop} (H : ∀ (x0 : Nat) (x2 : Int32) (x3 : Int32) (x4 : Int32) (τ : px_M), Q x0 x2 x3 x4 τ → ∀ (z1 : Option px_V) (z5 : Option px_V), px_W C k 105 [some (.inr (.inr (some x0))), z1, some (.inl x2), some (.inl x3), some (.inl x4), z5] [] τ) : ∀ ls st τ, kp_2010_105 Q ls st τ → px_W C k 105 ls st τ := by
  intro ls st τ hz
  obtain ⟨ez, h0⟩ := hz
  obtain ⟨x0, l0, e0, h1⟩ := kN_sp h0
  obtain ⟨z1, l1, e1, h2⟩ := kZ_sp h1
  obtain ⟨x2, l2, e2, h3⟩ := kI_sp h2
  obtain ⟨x3, l3, e3, h4⟩ := kI_sp h3
  obtain ⟨x4, l4, e4, h5⟩ := kI_sp h4
  obtain ⟨z5, l5, e5, h6⟩ := kZ_sp h5
  obtain ⟨ey, hy⟩ := kE_sp h6
  subst ez
  subst ey
  subst e5
  subst e4
  subst e3
  subst e2
  subst e1
  subst e0
  exact H x0 x2 x3 x4 τ hy z1 z5
def kp_2010_88 (Q : Nat → Int32 → Int32 → Int32 → px_M → Prop) : px_P := fun ls st τ => st = [] ∧ kN ls (fun x0 ls => kZ ls (fun ls => kI ls (fun x2 ls => kI ls (fun x3 ls => kI ls (fun x4 ls => kZ ls (fun ls => kE ls (Q x0 x2 x3 x4 τ)))))))
theorem kq_2010_88 {C : px_C} {k : Option px_V → px_M → Prop} {Q : Nat → Int32 → Int32 → Int32 → px_M → Prop} (H : ∀ (x0 : Nat) (x2 : Int32) (x3 : Int32) (x4 : Int32) (τ : px_M), Q x0 x2 x3 x4 τ → ∀ (z1 : Option px_V) (z5 : Option px_V), px_W C k 88 [some (.inr (.inr (some x0))), z1, some (.inl x2), some (.inl x3), some (.inl x4), z5] [] τ) : ∀ ls st τ, kp_2010_88 Q ls st τ → px_W C k 88 ls st τ := by
  intro ls st τ hz
  obtain ⟨ez, h0⟩ := hz
  obtain ⟨x0, l0, e0, h1⟩ := kN_sp h0
  obtain ⟨z1, l1, e1, h2⟩ := kZ_sp h1
  obtain ⟨x2, l2, e2, h3⟩ := kI_sp h2
  obtain ⟨x3, l3, e3, h4⟩ := kI_sp h3
  obtain ⟨x4, l4, e4, h5⟩ := kI_sp h4
  obtain ⟨z5, l5, e5, h6⟩ := kZ_sp h5
  obtain ⟨ey, hy⟩ := kE_sp h6
  subst ez
  subst ey
  subst e5
  subst e4
  subst e3
  subst e2
  subst e1
  subst e0
  exact H x0 x2 x3 x4 τ hy z1 z5
def kp_2010_21 (Q : Nat → Int32 → Int32 → px_M → Prop) : px_P := fun ls st τ => st = [] ∧ kN ls (fun x0 ls => kZ ls (fun ls => kI ls (fun x2 ls => kI ls (fun x3 ls => kZ ls (fun ls => kZ ls (fun ls => kE ls (Q x0 x2 x3 τ)))))))
theorem kq_2010_21 {C : px_C} {k : Option px_V → px_M → Prop} {Q : Nat → Int32 → Int32 → px_M → Prop} (H : ∀ (x0 : Nat) (x2 : Int32) (x3 : Int32) (τ : px_M), Q x0 x2 x3 τ → ∀ (z1 : Option px_V) (z4 : Option px_V) (z5 : Option px_V), px_W C k 21 [some (.inr (.inr (some x0))), z1, some (.inl x2), some (.inl x3), z4, z5] [] τ) : ∀ ls st τ, kp_2010_21 Q ls st τ → px_W C k 21 ls st τ := by
  intro ls st τ hz
  obtain ⟨ez, h0⟩ := hz
  obtain ⟨x0, l0, e0, h1⟩ := kN_sp h0
  obtain ⟨z1, l1, e1, h2⟩ := kZ_sp h1
  obtain ⟨x2, l2, e2, h3⟩ := kI_sp h2
  obtain ⟨x3, l3, e3, h4⟩ := kI_sp h3
  obtain ⟨z4, l4, e4, h5⟩ := kZ_sp h4
  obtain ⟨z5, l5, e5, h6⟩ := kZ_sp h5
  obtain ⟨ey, hy⟩ := kE_sp h6
  subst ez
  subst ey
  subst e5
  subst e4
  subst e3
  subst e2
  subst e1
  subst e0
  exact H x0 x2 x3 τ hy z1 z4 z5
set_option maxHeartbeats 4000000 in
set_option maxRecDepth 100000 in
theorem rl_2010_242 {C : px_C} (hn : ((px_tb C).map Prod.fst).Nodup) {h : Nat} (hh : 28 ≤ h) (hC : px_ok C pn_i2010 h) {k : Option px_V → px_M → Prop} {x0 : Nat} {x2 : Int32} {x3 : Int32} {σ : px_M} (hs : oW (f_2010_242 (px_tb C) σ x0 x2 x3) (Sum.elim (fun s : Int32 × px_M => ∀ (z1 : Option px_V) (z4 : Option px_V) (z5 : Option px_V), px_W C k 21 [some (.inr (.inr (some x0))), z1, some (.inl x2), some (.inl s.1), z4, z5] [] s.2) (fun τ => k none τ))) : ∀ (z1 : Option px_V) (z4 : Option px_V) (z5 : Option px_V), px_W C k 242 [some (.inr (.inr (some x0))), z1, some (.inl x2), some (.inl x3), z4, z5] [] σ := by
  intro z1 z4 z5
  refine px_runG (h - 1) ck_2010 [] [(21, kp_2010_21 (fun y0 y2 y3 τ => y0 = x0 ∧ y2 = x2 ∧ (fun s : Int32 × px_M => ∀ (z1 : Option px_V) (z4 : Option px_V) (z5 : Option px_V), px_W C k 21 [some (.inr (.inr (some x0))), z1, some (.inl x2), some (.inl s.1), z4, z5] [] s.2) (y3, τ)))] 80 hC px_nosp (by omega) (px_cut1 (kq_2010_21 (fun y0 y2 y3 τ hq => by obtain ⟨rfl, rfl, hq⟩ := hq; exact hq)) px_nocut) (fun G Jf hG hJf => ?_)
  simp only [f_2010_242, oW_some, oW_none, oW_bind, oW_map, oW_ite, oW_bn, oW_gd, oW_oA, Sum.elim_inl, Sum.elim_inr, oW_and, true_and, and_true, false_and, and_false, true_or, or_true, false_or, or_false, and_self, or_self, not_false_eq_true, not_true_eq_false, false_implies, forall_const, true_implies, eq_self, ↓reduceIte] at hs
  simp only [↓hG, ↓hJf, ↓px_vc, ↓px_ex, ↓px_jp, ↓px_gi, ↓px_gl, ↓px_gr, ↓px_s1, ↓px_s2, ↓px_nl, ↓px_i1, ↓px_l1, ↓px_r1_o, ↓px_q1, ↓px_i2, ↓px_l2, ↓px_il, ↓px_d0, ↓px_d1, ↓px_d2, ↓px_pop, px_sz, ↓px_sp, ↓px_rd, ↓px_pt, ↓px_rok, ↓px_rv_o, ↓px_fill, ↓px_sl, ↓px_sw, ↓pn_SW, lc_lt, lc_ge, lc_gt, lc_le, lc_eq, ↓reduceIte, Nat.reduceEqDiff, Nat.reduceLeDiff, Nat.reduceAdd, Nat.reduceSub, reduceCtorEq, List.length_cons, List.length_nil, Option.toList_some, Option.toList_none, List.cons_append, List.nil_append, true_and, and_true, false_and, and_false, true_or, or_true, false_or, or_false, and_self, or_self, not_false_eq_true, not_true_eq_false, false_implies, forall_const, true_implies, eq_self, ↓kI_s, ↓kJ_s, ↓kN_s, ↓kO_s, ↓kZ_s, ↓kE_s, oW_and, ↓bk_2010, ↓pn_i2010, oW_some, oW_none, oW_bind, oW_map, oW_ite, oW_bn, oW_gd, oW_oA, Sum.elim_inl, Sum.elim_inr, ↓kp_2010_21]
  exact hs
set_option maxHeartbeats 4000000 in
set_option maxRecDepth 100000 in
theorem rl_2010_203 {C : px_C} (hn : ((px_tb C).map Prod.fst).Nodup) {h : Nat} (hh : 28 ≤ h) (hC : px_ok C pn_i2010 h) {k : Option px_V → px_M → Prop} {x0 : Nat} {x2 : Int32} {x3 : Int32} {x4 : Int32} : ∀ s : Int32 × px_M, oW (f_2010_203 (px_tb C) x0 x2 x3 x4 s.1 s.2) (Sum.elim (fun s : Int32 × px_M => ∀ (z1 : Option px_V) (z4 : Option px_V) (z5 : Option px_V), px_W C k 21 [some (.inr (.inr (some x0))), z1, some (.inl x2), some (.inl s.1), z4, z5] [] s.2) (fun τ => k none τ)) → (fun s : Int32 × px_M => ∀ (z1 : Option px_V), px_W C k 203 [some (.inr (.inr (some x0))), z1, some (.inl x2), some (.inl x3), some (.inl x4), some (.inl s.1)] [] s.2) s := by
  intro s h0
  refine lpO_sound (P := (fun s : Int32 × px_M => ∀ (z1 : Option px_V), px_W C k 203 [some (.inr (.inr (some x0))), z1, some (.inl x2), some (.inl x3), some (.inl x4), some (.inl s.1)] [] s.2)) (fun s hs => ?_) h0
  obtain ⟨x5, σ⟩ := s
  intro z1
  refine px_runG (h - 1) ck_2010 [(2011, Sg_2011 (f_2011 (px_tb C)))] [(203, kp_2010_203 (fun y0 y2 y3 y4 y5 τ => y0 = x0 ∧ y2 = x2 ∧ y3 = x3 ∧ y4 = x4 ∧ (fun s : Int32 × px_M => ∀ (z1 : Option px_V), px_W C k 203 [some (.inr (.inr (some x0))), z1, some (.inl x2), some (.inl x3), some (.inl x4), some (.inl s.1)] [] s.2) (y5, τ))), (242, kp_2010_242 (fun y0 y2 y3 τ => y0 = x0 ∧ y2 = x2 ∧ oW (f_2010_242 (px_tb C) τ y0 y2 y3) (Sum.elim (fun s : Int32 × px_M => ∀ (z1 : Option px_V) (z4 : Option px_V) (z5 : Option px_V), px_W C k 21 [some (.inr (.inr (some x0))), z1, some (.inl x2), some (.inl s.1), z4, z5] [] s.2) (fun τ => k none τ))))] 80 hC (px_sp1 (mf_2011 hn (by omega)) px_nosp) (by omega) (px_cut1 (kq_2010_203 (fun y0 y2 y3 y4 y5 τ hq => by obtain ⟨rfl, rfl, rfl, rfl, hq⟩ := hq; exact hq)) (px_cut1 (kq_2010_242 (fun y0 y2 y3 τ hq => by obtain ⟨rfl, rfl, hq⟩ := hq; exact rl_2010_242 hn (by omega) hC  hq)) px_nocut)) (fun G Jf hG hJf => ?_)
  simp only [F_2010_203, oW_some, oW_none, oW_bind, oW_map, oW_ite, oW_bn, oW_gd, oW_oA, Sum.elim_inl, Sum.elim_inr, oW_and, true_and, and_true, false_and, and_false, true_or, or_true, false_or, or_false, and_self, or_self, not_false_eq_true, not_true_eq_false, false_implies, forall_const, true_implies, eq_self, ↓reduceIte] at hs
  simp only [↓hG, ↓hJf, ↓px_vc, ↓px_ex, ↓px_jp, ↓px_gi, ↓px_gl, ↓px_gr, ↓px_s1, ↓px_s2, ↓px_nl, ↓px_i1, ↓px_l1, ↓px_r1_o, ↓px_q1, ↓px_i2, ↓px_l2, ↓px_il, ↓px_d0, ↓px_d1, ↓px_d2, ↓px_pop, px_sz, ↓px_sp, ↓px_rd, ↓px_pt, ↓px_rok, ↓px_rv_o, ↓px_fill, ↓px_sl, ↓px_sw, ↓pn_SW, lc_lt, lc_ge, lc_gt, lc_le, lc_eq, ↓reduceIte, Nat.reduceEqDiff, Nat.reduceLeDiff, Nat.reduceAdd, Nat.reduceSub, reduceCtorEq, List.length_cons, List.length_nil, Option.toList_some, Option.toList_none, List.cons_append, List.nil_append, true_and, and_true, false_and, and_false, true_or, or_true, false_or, or_false, and_self, or_self, not_false_eq_true, not_true_eq_false, false_implies, forall_const, true_implies, eq_self, ↓kI_s, ↓kJ_s, ↓kN_s, ↓kO_s, ↓kZ_s, ↓kE_s, oW_and, ↓bk_2010, ↓pn_i2010, oW_some, oW_none, oW_bind, oW_map, oW_ite, oW_bn, oW_gd, oW_oA, Sum.elim_inl, Sum.elim_inr, ↓Sg_2011, ↓kp_2010_203, ↓kp_2010_242]
  exact hs
set_option maxHeartbeats 4000000 in
set_option maxRecDepth 100000 in
theorem rl_2010_200 {C : px_C} (hn : ((px_tb C).map Prod.fst).Nodup) {h : Nat} (hh : 28 ≤ h) (hC : px_ok C pn_i2010 h) {k : Option px_V → px_M → Prop} {x0 : Nat} {x2 : Int32} {x3 : Int32} {x4 : Int32} {σ : px_M} (hs : oW (f_2010_200 (px_tb C) σ x0 x2 x3 x4) (Sum.elim (fun s : Int32 × px_M => ∀ (z1 : Option px_V) (z4 : Option px_V) (z5 : Option px_V), px_W C k 21 [some (.inr (.inr (some x0))), z1, some (.inl x2), some (.inl s.1), z4, z5] [] s.2) (fun τ => k none τ))) : ∀ (z1 : Option px_V) (z5 : Option px_V), px_W C k 200 [some (.inr (.inr (some x0))), z1, some (.inl x2), some (.inl x3), some (.inl x4), z5] [] σ := by
  intro z1 z5
  refine px_runG (h - 1) ck_2010 [] [(203, kp_2010_203 (fun y0 y2 y3 y4 y5 τ => y0 = x0 ∧ y2 = x2 ∧ oW (f_2010_203 (px_tb C) y0 y2 y3 y4 y5 τ) (Sum.elim (fun s : Int32 × px_M => ∀ (z1 : Option px_V) (z4 : Option px_V) (z5 : Option px_V), px_W C k 21 [some (.inr (.inr (some x0))), z1, some (.inl x2), some (.inl s.1), z4, z5] [] s.2) (fun τ => k none τ))))] 80 hC px_nosp (by omega) (px_cut1 (kq_2010_203 (fun y0 y2 y3 y4 y5 τ hq => by obtain ⟨rfl, rfl, hq⟩ := hq; exact rl_2010_203 hn (by omega) hC (y5, τ) hq)) px_nocut) (fun G Jf hG hJf => ?_)
  simp only [f_2010_200, oW_some, oW_none, oW_bind, oW_map, oW_ite, oW_bn, oW_gd, oW_oA, Sum.elim_inl, Sum.elim_inr, oW_and, true_and, and_true, false_and, and_false, true_or, or_true, false_or, or_false, and_self, or_self, not_false_eq_true, not_true_eq_false, false_implies, forall_const, true_implies, eq_self, ↓reduceIte] at hs
  simp only [↓hG, ↓hJf, ↓px_vc, ↓px_ex, ↓px_jp, ↓px_gi, ↓px_gl, ↓px_gr, ↓px_s1, ↓px_s2, ↓px_nl, ↓px_i1, ↓px_l1, ↓px_r1_o, ↓px_q1, ↓px_i2, ↓px_l2, ↓px_il, ↓px_d0, ↓px_d1, ↓px_d2, ↓px_pop, px_sz, ↓px_sp, ↓px_rd, ↓px_pt, ↓px_rok, ↓px_rv_o, ↓px_fill, ↓px_sl, ↓px_sw, ↓pn_SW, lc_lt, lc_ge, lc_gt, lc_le, lc_eq, ↓reduceIte, Nat.reduceEqDiff, Nat.reduceLeDiff, Nat.reduceAdd, Nat.reduceSub, reduceCtorEq, List.length_cons, List.length_nil, Option.toList_some, Option.toList_none, List.cons_append, List.nil_append, true_and, and_true, false_and, and_false, true_or, or_true, false_or, or_false, and_self, or_self, not_false_eq_true, not_true_eq_false, false_implies, forall_const, true_implies, eq_self, ↓kI_s, ↓kJ_s, ↓kN_s, ↓kO_s, ↓kZ_s, ↓kE_s, oW_and, ↓bk_2010, ↓pn_i2010, oW_some, oW_none, oW_bind, oW_map, oW_ite, oW_bn, oW_gd, oW_oA, Sum.elim_inl, Sum.elim_inr, ↓kp_2010_203]
  exact hs
set_option maxHeartbeats 4000000 in
set_option maxRecDepth 100000 in
theorem rl_2010_167 {C : px_C} (hn : ((px_tb C).map Prod.fst).Nodup) {h : Nat} (hh : 28 ≤ h) (hC : px_ok C pn_i2010 h) {k : Option px_V → px_M → Prop} {x0 : Nat} {x2 : Int32} {x3 : Int32} {x4 : Int32} {σ : px_M} (hs : oW (f_2010_167 (px_tb C) σ x0 x2 x3 x4) (Sum.elim (fun s : Int32 × px_M => ∀ (z1 : Option px_V) (z4 : Option px_V) (z5 : Option px_V), px_W C k 21 [some (.inr (.inr (some x0))), z1, some (.inl x2), some (.inl s.1), z4, z5] [] s.2) (fun τ => k none τ))) : ∀ (z1 : Option px_V) (z5 : Option px_V), px_W C k 167 [some (.inr (.inr (some x0))), z1, some (.inl x2), some (.inl x3), some (.inl x4), z5] [] σ := by
  intro z1 z5
  refine px_runG (h - 1) ck_2010 [(11004, Sg_11004 (f_11004 (px_tb C))), (11031, Sg_11031 (f_11031 (px_tb C)))] [(242, kp_2010_242 (fun y0 y2 y3 τ => y0 = x0 ∧ y2 = x2 ∧ oW (f_2010_242 (px_tb C) τ y0 y2 y3) (Sum.elim (fun s : Int32 × px_M => ∀ (z1 : Option px_V) (z4 : Option px_V) (z5 : Option px_V), px_W C k 21 [some (.inr (.inr (some x0))), z1, some (.inl x2), some (.inl s.1), z4, z5] [] s.2) (fun τ => k none τ))))] 80 hC (px_sp1 (mf_11004 hn (by omega)) (px_sp1 (mf_11031 hn (by omega)) px_nosp)) (by omega) (px_cut1 (kq_2010_242 (fun y0 y2 y3 τ hq => by obtain ⟨rfl, rfl, hq⟩ := hq; exact rl_2010_242 hn (by omega) hC  hq)) px_nocut) (fun G Jf hG hJf => ?_)
  simp only [f_2010_167, oW_some, oW_none, oW_bind, oW_map, oW_ite, oW_bn, oW_gd, oW_oA, Sum.elim_inl, Sum.elim_inr, oW_and, true_and, and_true, false_and, and_false, true_or, or_true, false_or, or_false, and_self, or_self, not_false_eq_true, not_true_eq_false, false_implies, forall_const, true_implies, eq_self, ↓reduceIte] at hs
  simp only [↓hG, ↓hJf, ↓px_vc, ↓px_ex, ↓px_jp, ↓px_gi, ↓px_gl, ↓px_gr, ↓px_s1, ↓px_s2, ↓px_nl, ↓px_i1, ↓px_l1, ↓px_r1_o, ↓px_q1, ↓px_i2, ↓px_l2, ↓px_il, ↓px_d0, ↓px_d1, ↓px_d2, ↓px_pop, px_sz, ↓px_sp, ↓px_rd, ↓px_pt, ↓px_rok, ↓px_rv_o, ↓px_fill, ↓px_sl, ↓px_sw, ↓pn_SW, lc_lt, lc_ge, lc_gt, lc_le, lc_eq, ↓reduceIte, Nat.reduceEqDiff, Nat.reduceLeDiff, Nat.reduceAdd, Nat.reduceSub, reduceCtorEq, List.length_cons, List.length_nil, Option.toList_some, Option.toList_none, List.cons_append, List.nil_append, true_and, and_true, false_and, and_false, true_or, or_true, false_or, or_false, and_self, or_self, not_false_eq_true, not_true_eq_false, false_implies, forall_const, true_implies, eq_self, ↓kI_s, ↓kJ_s, ↓kN_s, ↓kO_s, ↓kZ_s, ↓kE_s, oW_and, ↓bk_2010, ↓pn_i2010, oW_some, oW_none, oW_bind, oW_map, oW_ite, oW_bn, oW_gd, oW_oA, Sum.elim_inl, Sum.elim_inr, ↓Sg_11004, ↓Sg_11031, ↓kp_2010_242]
  exact hs
set_option maxHeartbeats 4000000 in
set_option maxRecDepth 100000 in
theorem rl_2010_139 {C : px_C} (hn : ((px_tb C).map Prod.fst).Nodup) {h : Nat} (hh : 28 ≤ h) (hC : px_ok C pn_i2010 h) {k : Option px_V → px_M → Prop} {x0 : Nat} {x2 : Int32} {x3 : Int32} {x4 : Int32} {σ : px_M} (hs : oW (f_2010_139 (px_tb C) σ x0 x2 x3 x4) (Sum.elim (fun s : Int32 × px_M => ∀ (z1 : Option px_V) (z4 : Option px_V) (z5 : Option px_V), px_W C k 21 [some (.inr (.inr (some x0))), z1, some (.inl x2), some (.inl s.1), z4, z5] [] s.2) (fun τ => k none τ))) : ∀ (z1 : Option px_V) (z5 : Option px_V), px_W C k 139 [some (.inr (.inr (some x0))), z1, some (.inl x2), some (.inl x3), some (.inl x4), z5] [] σ := by
  intro z1 z5
  refine px_runG (h - 1) ck_2010 [(8002, Sg_8002 (f_8002 (px_tb C))), (11004, Sg_11004 (f_11004 (px_tb C)))] [(242, kp_2010_242 (fun y0 y2 y3 τ => y0 = x0 ∧ y2 = x2 ∧ oW (f_2010_242 (px_tb C) τ y0 y2 y3) (Sum.elim (fun s : Int32 × px_M => ∀ (z1 : Option px_V) (z4 : Option px_V) (z5 : Option px_V), px_W C k 21 [some (.inr (.inr (some x0))), z1, some (.inl x2), some (.inl s.1), z4, z5] [] s.2) (fun τ => k none τ))))] 80 hC (px_sp1 (mf_8002 hn (by omega)) (px_sp1 (mf_11004 hn (by omega)) px_nosp)) (by omega) (px_cut1 (kq_2010_242 (fun y0 y2 y3 τ hq => by obtain ⟨rfl, rfl, hq⟩ := hq; exact rl_2010_242 hn (by omega) hC  hq)) px_nocut) (fun G Jf hG hJf => ?_)
  simp only [f_2010_139, oW_some, oW_none, oW_bind, oW_map, oW_ite, oW_bn, oW_gd, oW_oA, Sum.elim_inl, Sum.elim_inr, oW_and, true_and, and_true, false_and, and_false, true_or, or_true, false_or, or_false, and_self, or_self, not_false_eq_true, not_true_eq_false, false_implies, forall_const, true_implies, eq_self, ↓reduceIte] at hs
  simp only [↓hG, ↓hJf, ↓px_vc, ↓px_ex, ↓px_jp, ↓px_gi, ↓px_gl, ↓px_gr, ↓px_s1, ↓px_s2, ↓px_nl, ↓px_i1, ↓px_l1, ↓px_r1_o, ↓px_q1, ↓px_i2, ↓px_l2, ↓px_il, ↓px_d0, ↓px_d1, ↓px_d2, ↓px_pop, px_sz, ↓px_sp, ↓px_rd, ↓px_pt, ↓px_rok, ↓px_rv_o, ↓px_fill, ↓px_sl, ↓px_sw, ↓pn_SW, lc_lt, lc_ge, lc_gt, lc_le, lc_eq, ↓reduceIte, Nat.reduceEqDiff, Nat.reduceLeDiff, Nat.reduceAdd, Nat.reduceSub, reduceCtorEq, List.length_cons, List.length_nil, Option.toList_some, Option.toList_none, List.cons_append, List.nil_append, true_and, and_true, false_and, and_false, true_or, or_true, false_or, or_false, and_self, or_self, not_false_eq_true, not_true_eq_false, false_implies, forall_const, true_implies, eq_self, ↓kI_s, ↓kJ_s, ↓kN_s, ↓kO_s, ↓kZ_s, ↓kE_s, oW_and, ↓bk_2010, ↓pn_i2010, oW_some, oW_none, oW_bind, oW_map, oW_ite, oW_bn, oW_gd, oW_oA, Sum.elim_inl, Sum.elim_inr, ↓Sg_8002, ↓Sg_11004, ↓kp_2010_242]
  exact hs
set_option maxHeartbeats 4000000 in
set_option maxRecDepth 100000 in
theorem rl_2010_122 {C : px_C} (hn : ((px_tb C).map Prod.fst).Nodup) {h : Nat} (hh : 28 ≤ h) (hC : px_ok C pn_i2010 h) {k : Option px_V → px_M → Prop} {x0 : Nat} {x2 : Int32} {x3 : Int32} {x4 : Int32} {σ : px_M} (hs : oW (f_2010_122 (px_tb C) σ x0 x2 x3 x4) (Sum.elim (fun s : Int32 × px_M => ∀ (z1 : Option px_V) (z4 : Option px_V) (z5 : Option px_V), px_W C k 21 [some (.inr (.inr (some x0))), z1, some (.inl x2), some (.inl s.1), z4, z5] [] s.2) (fun τ => k none τ))) : ∀ (z1 : Option px_V) (z5 : Option px_V), px_W C k 122 [some (.inr (.inr (some x0))), z1, some (.inl x2), some (.inl x3), some (.inl x4), z5] [] σ := by
  intro z1 z5
  refine px_runG (h - 1) ck_2010 [(3008, Sg_3008 (f_3008 (px_tb C)))] [(242, kp_2010_242 (fun y0 y2 y3 τ => y0 = x0 ∧ y2 = x2 ∧ oW (f_2010_242 (px_tb C) τ y0 y2 y3) (Sum.elim (fun s : Int32 × px_M => ∀ (z1 : Option px_V) (z4 : Option px_V) (z5 : Option px_V), px_W C k 21 [some (.inr (.inr (some x0))), z1, some (.inl x2), some (.inl s.1), z4, z5] [] s.2) (fun τ => k none τ))))] 80 hC (px_sp1 (mf_3008 hn (by omega)) px_nosp) (by omega) (px_cut1 (kq_2010_242 (fun y0 y2 y3 τ hq => by obtain ⟨rfl, rfl, hq⟩ := hq; exact rl_2010_242 hn (by omega) hC  hq)) px_nocut) (fun G Jf hG hJf => ?_)
  simp only [f_2010_122, oW_some, oW_none, oW_bind, oW_map, oW_ite, oW_bn, oW_gd, oW_oA, Sum.elim_inl, Sum.elim_inr, oW_and, true_and, and_true, false_and, and_false, true_or, or_true, false_or, or_false, and_self, or_self, not_false_eq_true, not_true_eq_false, false_implies, forall_const, true_implies, eq_self, ↓reduceIte] at hs
  simp only [↓hG, ↓hJf, ↓px_vc, ↓px_ex, ↓px_jp, ↓px_gi, ↓px_gl, ↓px_gr, ↓px_s1, ↓px_s2, ↓px_nl, ↓px_i1, ↓px_l1, ↓px_r1_o, ↓px_q1, ↓px_i2, ↓px_l2, ↓px_il, ↓px_d0, ↓px_d1, ↓px_d2, ↓px_pop, px_sz, ↓px_sp, ↓px_rd, ↓px_pt, ↓px_rok, ↓px_rv_o, ↓px_fill, ↓px_sl, ↓px_sw, ↓pn_SW, lc_lt, lc_ge, lc_gt, lc_le, lc_eq, ↓reduceIte, Nat.reduceEqDiff, Nat.reduceLeDiff, Nat.reduceAdd, Nat.reduceSub, reduceCtorEq, List.length_cons, List.length_nil, Option.toList_some, Option.toList_none, List.cons_append, List.nil_append, true_and, and_true, false_and, and_false, true_or, or_true, false_or, or_false, and_self, or_self, not_false_eq_true, not_true_eq_false, false_implies, forall_const, true_implies, eq_self, ↓kI_s, ↓kJ_s, ↓kN_s, ↓kO_s, ↓kZ_s, ↓kE_s, oW_and, ↓bk_2010, ↓pn_i2010, oW_some, oW_none, oW_bind, oW_map, oW_ite, oW_bn, oW_gd, oW_oA, Sum.elim_inl, Sum.elim_inr, ↓Sg_3008, ↓kp_2010_242]
  exact hs
set_option maxHeartbeats 4000000 in
set_option maxRecDepth 100000 in
theorem rl_2010_105 {C : px_C} (hn : ((px_tb C).map Prod.fst).Nodup) {h : Nat} (hh : 28 ≤ h) (hC : px_ok C pn_i2010 h) {k : Option px_V → px_M → Prop} {x0 : Nat} {x2 : Int32} {x3 : Int32} {x4 : Int32} {σ : px_M} (hs : oW (f_2010_105 (px_tb C) σ x0 x2 x3 x4) (Sum.elim (fun s : Int32 × px_M => ∀ (z1 : Option px_V) (z4 : Option px_V) (z5 : Option px_V), px_W C k 21 [some (.inr (.inr (some x0))), z1, some (.inl x2), some (.inl s.1), z4, z5] [] s.2) (fun τ => k none τ))) : ∀ (z1 : Option px_V) (z5 : Option px_V), px_W C k 105 [some (.inr (.inr (some x0))), z1, some (.inl x2), some (.inl x3), some (.inl x4), z5] [] σ := by
  intro z1 z5
  refine px_runG (h - 1) ck_2010 [(11015, Sg_11015 (f_11015 (px_tb C)))] [(242, kp_2010_242 (fun y0 y2 y3 τ => y0 = x0 ∧ y2 = x2 ∧ oW (f_2010_242 (px_tb C) τ y0 y2 y3) (Sum.elim (fun s : Int32 × px_M => ∀ (z1 : Option px_V) (z4 : Option px_V) (z5 : Option px_V), px_W C k 21 [some (.inr (.inr (some x0))), z1, some (.inl x2), some (.inl s.1), z4, z5] [] s.2) (fun τ => k none τ))))] 80 hC (px_sp1 (mf_11015 hn (by omega)) px_nosp) (by omega) (px_cut1 (kq_2010_242 (fun y0 y2 y3 τ hq => by obtain ⟨rfl, rfl, hq⟩ := hq; exact rl_2010_242 hn (by omega) hC  hq)) px_nocut) (fun G Jf hG hJf => ?_)
  simp only [f_2010_105, oW_some, oW_none, oW_bind, oW_map, oW_ite, oW_bn, oW_gd, oW_oA, Sum.elim_inl, Sum.elim_inr, oW_and, true_and, and_true, false_and, and_false, true_or, or_true, false_or, or_false, and_self, or_self, not_false_eq_true, not_true_eq_false, false_implies, forall_const, true_implies, eq_self, ↓reduceIte] at hs
  simp only [↓hG, ↓hJf, ↓px_vc, ↓px_ex, ↓px_jp, ↓px_gi, ↓px_gl, ↓px_gr, ↓px_s1, ↓px_s2, ↓px_nl, ↓px_i1, ↓px_l1, ↓px_r1_o, ↓px_q1, ↓px_i2, ↓px_l2, ↓px_il, ↓px_d0, ↓px_d1, ↓px_d2, ↓px_pop, px_sz, ↓px_sp, ↓px_rd, ↓px_pt, ↓px_rok, ↓px_rv_o, ↓px_fill, ↓px_sl, ↓px_sw, ↓pn_SW, lc_lt, lc_ge, lc_gt, lc_le, lc_eq, ↓reduceIte, Nat.reduceEqDiff, Nat.reduceLeDiff, Nat.reduceAdd, Nat.reduceSub, reduceCtorEq, List.length_cons, List.length_nil, Option.toList_some, Option.toList_none, List.cons_append, List.nil_append, true_and, and_true, false_and, and_false, true_or, or_true, false_or, or_false, and_self, or_self, not_false_eq_true, not_true_eq_false, false_implies, forall_const, true_implies, eq_self, ↓kI_s, ↓kJ_s, ↓kN_s, ↓kO_s, ↓kZ_s, ↓kE_s, oW_and, ↓bk_2010, ↓pn_i2010, oW_some, oW_none, oW_bind, oW_map, oW_ite, oW_bn, oW_gd, oW_oA, Sum.elim_inl, Sum.elim_inr, ↓Sg_11015, ↓kp_2010_242]
  exact hs
set_option maxHeartbeats 4000000 in
set_option maxRecDepth 100000 in
theorem rl_2010_88 {C : px_C} (hn : ((px_tb C).map Prod.fst).Nodup) {h : Nat} (hh : 28 ≤ h) (hC : px_ok C pn_i2010 h) {k : Option px_V → px_M → Prop} {x0 : Nat} {x2 : Int32} {x3 : Int32} {x4 : Int32} {σ : px_M} (hs : oW (f_2010_88 (px_tb C) σ x0 x2 x3 x4) (Sum.elim (fun s : Int32 × px_M => ∀ (z1 : Option px_V) (z4 : Option px_V) (z5 : Option px_V), px_W C k 21 [some (.inr (.inr (some x0))), z1, some (.inl x2), some (.inl s.1), z4, z5] [] s.2) (fun τ => k none τ))) : ∀ (z1 : Option px_V) (z5 : Option px_V), px_W C k 88 [some (.inr (.inr (some x0))), z1, some (.inl x2), some (.inl x3), some (.inl x4), z5] [] σ := by
  intro z1 z5
  refine px_runG (h - 1) ck_2010 [] [(242, kp_2010_242 (fun y0 y2 y3 τ => y0 = x0 ∧ y2 = x2 ∧ oW (f_2010_242 (px_tb C) τ y0 y2 y3) (Sum.elim (fun s : Int32 × px_M => ∀ (z1 : Option px_V) (z4 : Option px_V) (z5 : Option px_V), px_W C k 21 [some (.inr (.inr (some x0))), z1, some (.inl x2), some (.inl s.1), z4, z5] [] s.2) (fun τ => k none τ))))] 80 hC px_nosp (by omega) (px_cut1 (kq_2010_242 (fun y0 y2 y3 τ hq => by obtain ⟨rfl, rfl, hq⟩ := hq; exact rl_2010_242 hn (by omega) hC  hq)) px_nocut) (fun G Jf hG hJf => ?_)
  simp only [f_2010_88, oW_some, oW_none, oW_bind, oW_map, oW_ite, oW_bn, oW_gd, oW_oA, Sum.elim_inl, Sum.elim_inr, oW_and, true_and, and_true, false_and, and_false, true_or, or_true, false_or, or_false, and_self, or_self, not_false_eq_true, not_true_eq_false, false_implies, forall_const, true_implies, eq_self, ↓reduceIte] at hs
  simp only [↓hG, ↓hJf, ↓px_vc, ↓px_ex, ↓px_jp, ↓px_gi, ↓px_gl, ↓px_gr, ↓px_s1, ↓px_s2, ↓px_nl, ↓px_i1, ↓px_l1, ↓px_r1_o, ↓px_q1, ↓px_i2, ↓px_l2, ↓px_il, ↓px_d0, ↓px_d1, ↓px_d2, ↓px_pop, px_sz, ↓px_sp, ↓px_rd, ↓px_pt, ↓px_rok, ↓px_rv_o, ↓px_fill, ↓px_sl, ↓px_sw, ↓pn_SW, lc_lt, lc_ge, lc_gt, lc_le, lc_eq, ↓reduceIte, Nat.reduceEqDiff, Nat.reduceLeDiff, Nat.reduceAdd, Nat.reduceSub, reduceCtorEq, List.length_cons, List.length_nil, Option.toList_some, Option.toList_none, List.cons_append, List.nil_append, true_and, and_true, false_and, and_false, true_or, or_true, false_or, or_false, and_self, or_self, not_false_eq_true, not_true_eq_false, false_implies, forall_const, true_implies, eq_self, ↓kI_s, ↓kJ_s, ↓kN_s, ↓kO_s, ↓kZ_s, ↓kE_s, oW_and, ↓bk_2010, ↓pn_i2010, oW_some, oW_none, oW_bind, oW_map, oW_ite, oW_bn, oW_gd, oW_oA, Sum.elim_inl, Sum.elim_inr, ↓kp_2010_242]
  exact hs
set_option maxHeartbeats 4000000 in
set_option maxRecDepth 100000 in
theorem rl_2010_21 {C : px_C} (hn : ((px_tb C).map Prod.fst).Nodup) {h : Nat} (hh : 28 ≤ h) (hC : px_ok C pn_i2010 h) {k : Option px_V → px_M → Prop} {x0 : Nat} {x2 : Int32} : ∀ s : Int32 × px_M, oW (f_2010_21 (px_tb C) x0 x2 s.1 s.2) (fun τ => k none τ) → (fun s : Int32 × px_M => ∀ (z1 : Option px_V) (z4 : Option px_V) (z5 : Option px_V), px_W C k 21 [some (.inr (.inr (some x0))), z1, some (.inl x2), some (.inl s.1), z4, z5] [] s.2) s := by
  intro s h0
  refine lpO_sound (P := (fun s : Int32 × px_M => ∀ (z1 : Option px_V) (z4 : Option px_V) (z5 : Option px_V), px_W C k 21 [some (.inr (.inr (some x0))), z1, some (.inl x2), some (.inl s.1), z4, z5] [] s.2)) (fun s hs => ?_) h0
  obtain ⟨x3, σ⟩ := s
  intro z1 z4 z5
  refine px_runG (h - 1) ck_2010 [] [(88, kp_2010_88 (fun y0 y2 y3 y4 τ => y0 = x0 ∧ y2 = x2 ∧ oW (f_2010_88 (px_tb C) τ y0 y2 y3 y4) (Sum.elim (fun s : Int32 × px_M => ∀ (z1 : Option px_V) (z4 : Option px_V) (z5 : Option px_V), px_W C k 21 [some (.inr (.inr (some x0))), z1, some (.inl x2), some (.inl s.1), z4, z5] [] s.2) (fun τ => k none τ)))), (105, kp_2010_105 (fun y0 y2 y3 y4 τ => y0 = x0 ∧ y2 = x2 ∧ oW (f_2010_105 (px_tb C) τ y0 y2 y3 y4) (Sum.elim (fun s : Int32 × px_M => ∀ (z1 : Option px_V) (z4 : Option px_V) (z5 : Option px_V), px_W C k 21 [some (.inr (.inr (some x0))), z1, some (.inl x2), some (.inl s.1), z4, z5] [] s.2) (fun τ => k none τ)))), (122, kp_2010_122 (fun y0 y2 y3 y4 τ => y0 = x0 ∧ y2 = x2 ∧ oW (f_2010_122 (px_tb C) τ y0 y2 y3 y4) (Sum.elim (fun s : Int32 × px_M => ∀ (z1 : Option px_V) (z4 : Option px_V) (z5 : Option px_V), px_W C k 21 [some (.inr (.inr (some x0))), z1, some (.inl x2), some (.inl s.1), z4, z5] [] s.2) (fun τ => k none τ)))), (139, kp_2010_139 (fun y0 y2 y3 y4 τ => y0 = x0 ∧ y2 = x2 ∧ oW (f_2010_139 (px_tb C) τ y0 y2 y3 y4) (Sum.elim (fun s : Int32 × px_M => ∀ (z1 : Option px_V) (z4 : Option px_V) (z5 : Option px_V), px_W C k 21 [some (.inr (.inr (some x0))), z1, some (.inl x2), some (.inl s.1), z4, z5] [] s.2) (fun τ => k none τ)))), (167, kp_2010_167 (fun y0 y2 y3 y4 τ => y0 = x0 ∧ y2 = x2 ∧ oW (f_2010_167 (px_tb C) τ y0 y2 y3 y4) (Sum.elim (fun s : Int32 × px_M => ∀ (z1 : Option px_V) (z4 : Option px_V) (z5 : Option px_V), px_W C k 21 [some (.inr (.inr (some x0))), z1, some (.inl x2), some (.inl s.1), z4, z5] [] s.2) (fun τ => k none τ)))), (200, kp_2010_200 (fun y0 y2 y3 y4 τ => y0 = x0 ∧ y2 = x2 ∧ oW (f_2010_200 (px_tb C) τ y0 y2 y3 y4) (Sum.elim (fun s : Int32 × px_M => ∀ (z1 : Option px_V) (z4 : Option px_V) (z5 : Option px_V), px_W C k 21 [some (.inr (.inr (some x0))), z1, some (.inl x2), some (.inl s.1), z4, z5] [] s.2) (fun τ => k none τ)))), (242, kp_2010_242 (fun y0 y2 y3 τ => y0 = x0 ∧ y2 = x2 ∧ oW (f_2010_242 (px_tb C) τ y0 y2 y3) (Sum.elim (fun s : Int32 × px_M => ∀ (z1 : Option px_V) (z4 : Option px_V) (z5 : Option px_V), px_W C k 21 [some (.inr (.inr (some x0))), z1, some (.inl x2), some (.inl s.1), z4, z5] [] s.2) (fun τ => k none τ))))] 80 hC px_nosp (by omega) (px_cut1 (kq_2010_88 (fun y0 y2 y3 y4 τ hq => by obtain ⟨rfl, rfl, hq⟩ := hq; exact rl_2010_88 hn (by omega) hC  hq)) (px_cut1 (kq_2010_105 (fun y0 y2 y3 y4 τ hq => by obtain ⟨rfl, rfl, hq⟩ := hq; exact rl_2010_105 hn (by omega) hC  hq)) (px_cut1 (kq_2010_122 (fun y0 y2 y3 y4 τ hq => by obtain ⟨rfl, rfl, hq⟩ := hq; exact rl_2010_122 hn (by omega) hC  hq)) (px_cut1 (kq_2010_139 (fun y0 y2 y3 y4 τ hq => by obtain ⟨rfl, rfl, hq⟩ := hq; exact rl_2010_139 hn (by omega) hC  hq)) (px_cut1 (kq_2010_167 (fun y0 y2 y3 y4 τ hq => by obtain ⟨rfl, rfl, hq⟩ := hq; exact rl_2010_167 hn (by omega) hC  hq)) (px_cut1 (kq_2010_200 (fun y0 y2 y3 y4 τ hq => by obtain ⟨rfl, rfl, hq⟩ := hq; exact rl_2010_200 hn (by omega) hC  hq)) (px_cut1 (kq_2010_242 (fun y0 y2 y3 τ hq => by obtain ⟨rfl, rfl, hq⟩ := hq; exact rl_2010_242 hn (by omega) hC  hq)) px_nocut))))))) (fun G Jf hG hJf => ?_)
  simp only [F_2010_21, oW_some, oW_none, oW_bind, oW_map, oW_ite, oW_bn, oW_gd, oW_oA, Sum.elim_inl, Sum.elim_inr, oW_and, true_and, and_true, false_and, and_false, true_or, or_true, false_or, or_false, and_self, or_self, not_false_eq_true, not_true_eq_false, false_implies, forall_const, true_implies, eq_self, ↓reduceIte] at hs
  simp only [↓hG, ↓hJf, ↓px_vc, ↓px_ex, ↓px_jp, ↓px_gi, ↓px_gl, ↓px_gr, ↓px_s1, ↓px_s2, ↓px_nl, ↓px_i1, ↓px_l1, ↓px_r1_o, ↓px_q1, ↓px_i2, ↓px_l2, ↓px_il, ↓px_d0, ↓px_d1, ↓px_d2, ↓px_pop, px_sz, ↓px_sp, ↓px_rd, ↓px_pt, ↓px_rok, ↓px_rv_o, ↓px_fill, ↓px_sl, ↓px_sw, ↓pn_SW, lc_lt, lc_ge, lc_gt, lc_le, lc_eq, ↓reduceIte, Nat.reduceEqDiff, Nat.reduceLeDiff, Nat.reduceAdd, Nat.reduceSub, reduceCtorEq, List.length_cons, List.length_nil, Option.toList_some, Option.toList_none, List.cons_append, List.nil_append, true_and, and_true, false_and, and_false, true_or, or_true, false_or, or_false, and_self, or_self, not_false_eq_true, not_true_eq_false, false_implies, forall_const, true_implies, eq_self, ↓kI_s, ↓kJ_s, ↓kN_s, ↓kO_s, ↓kZ_s, ↓kE_s, oW_and, ↓bk_2010, ↓pn_i2010, oW_some, oW_none, oW_bind, oW_map, oW_ite, oW_bn, oW_gd, oW_oA, Sum.elim_inl, Sum.elim_inr, ↓kp_2010_88, ↓kp_2010_105, ↓kp_2010_122, ↓kp_2010_139, ↓kp_2010_167, ↓kp_2010_200, ↓kp_2010_242]
  exact hs
set_option maxHeartbeats 4000000 in
set_option maxRecDepth 100000 in
theorem mf_2010 {tab : px_T} (hn : (tab.map Prod.fst).Nodup) {h : Nat} (hh : 28 ≤ h) : px_Ok tab pn_i2010 h (Sg_2010 (f_2010 tab)) := by
  refine px_mth hn (by decide +kernel) (fun av σ k hS => ?_) (fun C hT hC av σ k hS => ?_)
  · obtain ⟨x0, av0, e0, h0⟩ := px_r1_spec hS
    obtain ⟨x1, av1, e1, h1⟩ := px_i1_spec h0
    obtain ⟨ez, hz⟩ := h1
    subst ez
    subst e1
    subst e0
    exact Nat.le_of_ble_eq_true rfl
  · obtain ⟨x0, av0, e0, h0⟩ := px_r1_spec hS
    obtain ⟨x1, av1, e1, h1⟩ := px_i1_spec h0
    obtain ⟨ez, hz⟩ := h1
    subst ez
    subst e1
    subst e0
    subst hT
    refine px_runG (h - 1) ck_2010 [] [(21, kp_2010_21 (fun y0 y2 y3 τ => oW (f_2010_21 (px_tb C) y0 y2 y3 τ) (fun τ => k none τ)))] 80 hC px_nosp (by omega) (px_cut1 (kq_2010_21 (fun y0 y2 y3 τ hq => by exact rl_2010_21 hn (by omega) hC (y3, τ) hq)) px_nocut) (fun G Jf hG hJf => ?_)
    simp only [f_2010, oW_some, oW_none, oW_bind, oW_map, oW_ite, oW_bn, oW_gd, oW_oA, Sum.elim_inl, Sum.elim_inr, oW_and, true_and, and_true, false_and, and_false, true_or, or_true, false_or, or_false, and_self, or_self, not_false_eq_true, not_true_eq_false, false_implies, forall_const, true_implies, eq_self, ↓reduceIte] at hz
    simp only [↓hG, ↓hJf, ↓px_vc, ↓px_ex, ↓px_jp, ↓px_gi, ↓px_gl, ↓px_gr, ↓px_s1, ↓px_s2, ↓px_nl, ↓px_i1, ↓px_l1, ↓px_r1_o, ↓px_q1, ↓px_i2, ↓px_l2, ↓px_il, ↓px_d0, ↓px_d1, ↓px_d2, ↓px_pop, px_sz, ↓px_sp, ↓px_rd, ↓px_pt, ↓px_rok, ↓px_rv_o, ↓px_fill, ↓px_sl, ↓px_sw, ↓pn_SW, lc_lt, lc_ge, lc_gt, lc_le, lc_eq, ↓reduceIte, Nat.reduceEqDiff, Nat.reduceLeDiff, Nat.reduceAdd, Nat.reduceSub, reduceCtorEq, List.length_cons, List.length_nil, Option.toList_some, Option.toList_none, List.cons_append, List.nil_append, true_and, and_true, false_and, and_false, true_or, or_true, false_or, or_false, and_self, or_self, not_false_eq_true, not_true_eq_false, false_implies, forall_const, true_implies, eq_self, ↓kI_s, ↓kJ_s, ↓kN_s, ↓kO_s, ↓kZ_s, ↓kE_s, oW_and, ↓bk_2010, ↓pn_i2010, oW_some, oW_none, oW_bind, oW_map, oW_ite, oW_bn, oW_gd, oW_oA, Sum.elim_inl, Sum.elim_inr, ↓kp_2010_21]
    exact hz
