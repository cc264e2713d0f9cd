/-! the model: colours, colour -/
def S_colours : px_S := fun av σ k => av = [.inr (.inr (some 0))] ∧ mt_R σ.2.2 ∧ tok (σ.1 1) ∧ ∀ (m : Nat) (q : List Nat) (τ : px_M), fr 16 (px_wi σ 0 0 (nI 0)) τ → m ≤ tN (σ.1 1) → dy (σ.1 1) (-1) m (tN (σ.1 1)) [] = some q → (∀ i, i < m → dy (σ.1 1) (-1) i (tN (σ.1 1)) [] = none) → k (some (.inl (nI m))) τ
set_option maxHeartbeats 4000000 in
set_option maxRecDepth 100000 in
theorem m_colours {tab : px_T} (ht : mt_ok tab) {h : Nat} (hh : 15 ≤ h) : px_Ok tab pn_i91 h S_colours := by
  refine px_mth ht.1 (by decide +kernel) (fun av σ k hS => by obtain ⟨rfl, hR, htk, hS⟩ := hS; exact Nat.le_of_ble_eq_true rfl) (fun C hT hC av σ k hS => ?_)
  obtain ⟨rfl, hR, htk, hS⟩ := hS
  subst hT
  refine px_runG (h - 1) ck_91 [(43, S_fewestColours)] [] 24 hC (px_sp1 (m_fewestColours ht (by omega)) px_nosp) (by omega) px_nocut (fun G Jf hG hJf => ?_)
  simp only [↓hG, ↓hJf, ↓px_go, ↓px_vc, ↓px_ex, ↓px_jp, ↓px_gi, ↓px_gl, ↓px_gr, ↓px_s1, ↓px_s2, ↓px_nl, ↓px_i1, ↓px_l1, ↓px_r1, ↓px_q1, ↓px_i2, ↓px_l2, ↓px_il, ↓px_d0, ↓px_d1, ↓px_d2, ↓px_pop, px_sz, ↓px_sp, ↓px_obj, ↓px_arr, ↓px_rd, ↓px_pt, ↓px_rok, ↓px_rv, ↓px_fill, ↓px_sl, ↓px_li, ↓px_l0, ↓px_lw, ↓px_lc, px_wi, px_wl, px_wr, px_up_at, lc_lt, lc_ge, lc_gt, lc_le, lc_eq, ↓reduceIte, Nat.reduceEqDiff, Nat.reduceLeDiff, Nat.reduceAdd, Nat.reduceSub, reduceCtorEq, List.length_cons, List.length_nil, Option.toList_some, Option.toList_none, List.cons_append, List.nil_append, true_and, and_true, false_and, and_false, true_or, or_true, false_or, or_false, and_self, or_self, not_false_eq_true, not_true_eq_false, false_implies, forall_const, true_implies, ↓bk_91, ↓pn_i91, ↓S_fewestColours, mt_0 ht]
  try simp (disch := omega) only [true_and, and_true, mb_bit, mb_house, bcI_eq, px_up_row, ni_divL, ni_subL, nI_add, pk_mul, nI_leI, nI_ltI, nI_eq, vp_in_eq, nI_clamp, fa_and, fa_or, ni_bit1, ni_1s, nI_l, mb_eq0, mb_ne0, mb_eq1]
  exact ⟨hR, htk, fun m q τ g1 g2 g3 g4 _ => hS m q τ g1 g2 g3 g4⟩
