/-! fours 4 -/
theorem t4_stay {r : Nat → Int32} {a j : Nat} (hja : j = a) : sm (t4f r a) (j + 1) = sm (t4f r a) j := by simp [sm, t4f, hja]
def I_foursOf (a : Nat) (σ : px_M) : Nat → px_Ls → px_M → Prop := fun j ls τ => ∃ z, ls = [some (.inr (.inr (some 0))), some (.inl (nI a)), some (.inl (nI (sm (t4f (σ.1 1) a) j))), some (.inl (nI j)), z] ∧ τ = σ
set_option maxHeartbeats 4000000 in
set_option maxRecDepth 100000 in
theorem m_foursOf {tab : px_T} (ht : mt_ok tab) {h : Nat} (hh : 3 ≤ h) : px_Ok tab pn_i34 h S_foursOf := by
  refine px_mth ht.1 (by decide +kernel) (fun av σ k hS => by obtain ⟨a, rfl, hR, ⟨hn, h1, hnb, hlt⟩, ha, hS⟩ := S_foursOf_sp hS; exact Nat.le_of_ble_eq_true rfl) (fun C hT hC av σ k hS => ?_)
  replace hS := S_foursOf_sp hS
  obtain ⟨a, rfl, hR, ⟨hn, h1, hnb, hlt⟩, ha, hS⟩ := hS
  subst hT
  have lp := px_loop (C := C) (k := k) (pc := 4) (I_foursOf a σ) (tN (σ.1 1)) (fun j ls σ' hj hI hn2 => by
    obtain ⟨z, rfl, rfl⟩ := hI
    have hla := hlt a ha
    refine px_run (h - 1) ck_34 [(31, S_near), (32, S_bitsOf)] [(4, px_li (I_foursOf a σ') j (tN (σ'.1 1)))] 24 hC (px_sp1 (m_near ht (by omega)) (px_sp1 (m_bitsOf ht (by omega)) px_nosp)) (by omega) (px_cut1 (px_li_ok hn2) px_nocut) ?_
    simp only [↓px_go, ↓px_vc, ↓px_ex, ↓px_jp, ↓px_gi, ↓px_gl, ↓px_gr, ↓px_s1, ↓px_s2, ↓px_nl, ↓px_i1, ↓px_l1, ↓px_r1, ↓px_q1, ↓px_i2, ↓px_l2, ↓px_il, ↓px_d0, ↓px_d1, ↓px_d2, ↓px_pop, px_sz, ↓px_sp, ↓px_obj, ↓px_arr, ↓px_rd, ↓px_pt, ↓px_rok, ↓px_rv, ↓px_fill, ↓px_sl, ↓px_li, ↓px_l0, ↓px_lw, px_wi, px_wl, px_wr, px_up_at, lc_lt, lc_ge, lc_gt, lc_le, lc_eq, ↓reduceIte, Nat.reduceEqDiff, Nat.reduceLeDiff, Nat.reduceAdd, Nat.reduceSub, reduceCtorEq, List.length_cons, List.length_nil, Option.toList_some, Option.toList_none, List.cons_append, List.nil_append, true_and, and_true, false_and, and_false, true_or, or_true, false_or, or_false, and_self, or_self, not_false_eq_true, not_true_eq_false, false_implies, forall_const, true_implies, ↓bk_34, ↓pn_i34, ↓S_near, ↓S_bitsOf, I_foursOf, mt_0 ht, mt_1 ht, mr_1 hR]
    try simp (disch := omega) only [mb_bit, mb_house, bcI_eq, px_up_row, ni_divL, ni_subL, nI_add, pk_mul, nI_leI, nI_ltI, nI_eq, vp_in_eq, nI_clamp, fa_and, fa_or, ni_bit1, ni_1s, nI_l, mb_eq0, mb_ne0, mb_eq1, h1, hnb]
    refine ⟨by omega, fun q => ?_, fun q => ⟨fun hja => ?_, fun hja => ?_⟩⟩
    · have : j = tN (σ'.1 1) := by omega
      rw [this]
      exact hS
    · refine ⟨hR, by omega, hR, by omega, by omega, by omega, ?_⟩
      rw [hnb j (by omega), t4_step hla hja]
      exact ⟨_, rfl⟩
    · rw [t4_stay hja]
      exact ⟨by omega, _, rfl⟩)
  refine px_run (h - 1) ck_34 [] [(4, px_l0 (I_foursOf a σ))] 24 hC px_nosp (by omega) (px_cut1 (px_l0_ok lp) px_nocut) ?_
  simp only [↓px_go, ↓px_vc, ↓px_ex, ↓px_jp, ↓px_gi, ↓px_gl, ↓px_gr, ↓px_s1, ↓px_s2, ↓px_nl, ↓px_i1, ↓px_l1, ↓px_r1, ↓px_q1, ↓px_i2, ↓px_l2, ↓px_il, ↓px_d0, ↓px_d1, ↓px_d2, ↓px_pop, px_sz, ↓px_sp, ↓px_obj, ↓px_arr, ↓px_rd, ↓px_pt, ↓px_rok, ↓px_rv, ↓px_fill, ↓px_sl, ↓px_li, ↓px_l0, ↓px_lw, px_wi, px_wl, px_wr, px_up_at, lc_lt, lc_ge, lc_gt, lc_le, lc_eq, ↓reduceIte, Nat.reduceEqDiff, Nat.reduceLeDiff, Nat.reduceAdd, Nat.reduceSub, reduceCtorEq, List.length_cons, List.length_nil, Option.toList_some, Option.toList_none, List.cons_append, List.nil_append, true_and, and_true, false_and, and_false, true_or, or_true, false_or, or_false, and_self, or_self, not_false_eq_true, not_true_eq_false, false_implies, forall_const, true_implies, ↓bk_34, ↓pn_i34, I_foursOf]
  try simp (disch := omega) only [mb_bit, mb_house, bcI_eq, px_up_row, ni_divL, ni_subL, nI_add, pk_mul, nI_leI, nI_ltI, nI_eq, vp_in_eq, nI_clamp, fa_and, fa_or, ni_bit1, ni_1s, nI_l, mb_eq0, mb_ne0, mb_eq1]
  exact ⟨_, rfl⟩
