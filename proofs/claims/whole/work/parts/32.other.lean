/-! the model: laysOther -/
def S_laysOther : px_S := fun av σ k => match av with
  | [.inr (.inr (some 0)), .inl w] => mt_R σ.2.2 ∧ w = nI w.toNatClampNeg ∧ w.toNatClampNeg ≤ 3000 ∧ ∀ τ, fr 28 (px_wi σ 0 30 (σ.1 1 (w.toNatClampNeg + 1))) τ → (∀ h, h < 11 → τ.1 28 h = σ.1 1 (w.toNatClampNeg + 2 + h)) → k none τ
  | _ => False
theorem S_laysOther_sp {av : List px_V} {σ : px_M} {k : Option px_V → px_M → Prop} (h : S_laysOther av σ k) : ∃ w, av = [.inr (.inr (some 0)), .inl w] ∧ (mt_R σ.2.2 ∧ w = nI w.toNatClampNeg ∧ w.toNatClampNeg ≤ 3000 ∧ ∀ τ, fr 28 (px_wi σ 0 30 (σ.1 1 (w.toNatClampNeg + 1))) τ → (∀ h, h < 11 → τ.1 28 h = σ.1 1 (w.toNatClampNeg + 2 + h)) → k none τ) := by
  unfold S_laysOther at h
  split at h
  · exact ⟨_, rfl, h⟩
  · exact h.elim
def I_lo (f : Nat) (σ : px_M) : Nat → px_Ls → px_M → Prop := fun j ls τ => ls = [some (.inr (.inr (some 0))), some (.inl (nI f)), some (.inl (nI j))] ∧ fr 28 (px_wi σ 0 30 (σ.1 1 (f + 1))) τ ∧ ∀ h, h < j → τ.1 28 h = σ.1 1 (f + 2 + h)
set_option maxHeartbeats 4000000 in
set_option maxRecDepth 100000 in
theorem m_laysOther {tab : px_T} (ht : mt_ok tab) {h : Nat} (hh : 1 ≤ h) : px_Ok tab pn_i107 h S_laysOther := by
  refine px_mth ht.1 (by decide +kernel) (fun av σ k hS => by obtain ⟨w, rfl, hR, hw, hw2, hS⟩ := S_laysOther_sp hS; exact Nat.le_of_ble_eq_true rfl) (fun C hT hC av σ k hS => ?_)
  replace hS := S_laysOther_sp hS
  obtain ⟨w, rfl, hR, hw, hw2, hS⟩ := hS
  subst hT
  obtain ⟨f, hf0⟩ : ∃ f, w.toNatClampNeg = f := ⟨_, rfl⟩
  rw [hf0] at hw hw2 hS
  subst hw
  clear hf0
  have lp := px_loop (C := C) (k := k) (pc := 14) (I_lo f σ) 11 (fun j ls τ hj hI hn2 => by
    obtain ⟨rfl, hfr, hlo⟩ := hI
    have hr1 : τ.1 1 = σ.1 1 := by
      rw [hfr.1 1 (by decide)]
      show px_up σ.1 0 30 (σ.1 1 (f + 1)) 1 = _
      exact px_up_row (by decide)
    have hR' : mt_R τ.2.2 := by rw [hfr.2]; exact hR
    refine px_runG (h - 1) ck_107 [] [(14, px_li (I_lo f σ) j 11)] 24 hC px_nosp (by omega) (px_cut1 (px_li_ok hn2) px_nocut) (fun G Jf hG hJf => ?_)
    simp only [↓hG, ↓hJf, ↓px_go, ↓px_vc, ↓px_ex, ↓px_jp, ↓px_gi, ↓px_gl, ↓px_gr, ↓px_s1, ↓px_s2, ↓px_nl, ↓px_i1, ↓px_l1, ↓px_r1, ↓px_q1, ↓px_i2, ↓px_l2, ↓px_il, ↓px_d0, ↓px_d1, ↓px_d2, ↓px_pop, px_sz, ↓px_sp, ↓px_obj, ↓px_arr, ↓px_rd, ↓px_pt, ↓px_rok, ↓px_rv, ↓px_fill, ↓px_sl, ↓px_li, ↓px_l0, ↓px_lw, ↓px_lc, px_wi, px_wl, px_wr, px_up_at, lc_lt, lc_ge, lc_gt, lc_le, lc_eq, ↓reduceIte, Nat.reduceEqDiff, Nat.reduceLeDiff, Nat.reduceAdd, Nat.reduceSub, reduceCtorEq, List.length_cons, List.length_nil, Option.toList_some, Option.toList_none, List.cons_append, List.nil_append, true_and, and_true, false_and, and_false, true_or, or_true, false_or, or_false, and_self, or_self, not_false_eq_true, not_true_eq_false, false_implies, forall_const, true_implies, ↓bk_107, ↓pn_i107, I_lo, mt_0 ht, mt_1 ht, mt_28 ht, mr_1 hR', mr_28 hR']
    try simp (disch := omega) only [true_and, and_true, mb_bit, mb_house, bcI_eq, px_up_row, ni_divL, ni_subL, nI_add, pk_mul, nI_leI, nI_ltI, nI_eq, vp_in_eq, nI_clamp, fa_and, fa_or, ni_bit1, ni_1s, nI_l, mb_eq0, mb_ne0, mb_eq1, hr1]
    refine ⟨fun q => ?_, fun q => ⟨by omega, by omega, by omega, fr_up hfr _ _, fun h hh => ?_⟩⟩
    · exact hS τ hfr (fun h hh => hlo h (by omega))
    · by_cases hhj : h = j
      · subst hhj; rw [if_pos rfl]
      · rw [if_neg hhj]; exact hlo h (by omega))
  refine px_runG (h - 1) ck_107 [] [(14, px_l0 (I_lo f σ))] 24 hC px_nosp (by omega) (px_cut1 (px_l0_ok lp) px_nocut) (fun G Jf hG hJf => ?_)
  simp only [↓hG, ↓hJf, ↓px_go, ↓px_vc, ↓px_ex, ↓px_jp, ↓px_gi, ↓px_gl, ↓px_gr, ↓px_s1, ↓px_s2, ↓px_nl, ↓px_i1, ↓px_l1, ↓px_r1, ↓px_q1, ↓px_i2, ↓px_l2, ↓px_il, ↓px_d0, ↓px_d1, ↓px_d2, ↓px_pop, px_sz, ↓px_sp, ↓px_obj, ↓px_arr, ↓px_rd, ↓px_pt, ↓px_rok, ↓px_rv, ↓px_fill, ↓px_sl, ↓px_li, ↓px_l0, ↓px_lw, ↓px_lc, px_wi, px_wl, px_wr, px_up_at, lc_lt, lc_ge, lc_gt, lc_le, lc_eq, ↓reduceIte, Nat.reduceEqDiff, Nat.reduceLeDiff, Nat.reduceAdd, Nat.reduceSub, reduceCtorEq, List.length_cons, List.length_nil, Option.toList_some, Option.toList_none, List.cons_append, List.nil_append, true_and, and_true, false_and, and_false, true_or, or_true, false_or, or_false, and_self, or_self, not_false_eq_true, not_true_eq_false, false_implies, forall_const, true_implies, ↓bk_107, ↓pn_i107, I_lo, mt_0 ht, mt_1 ht, mr_1 hR]
  try simp (disch := omega) only [true_and, and_true, mb_bit, mb_house, bcI_eq, px_up_row, ni_divL, ni_subL, nI_add, pk_mul, nI_leI, nI_ltI, nI_eq, vp_in_eq, nI_clamp, fa_and, fa_or, ni_bit1, ni_1s, nI_l, mb_eq0, mb_ne0, mb_eq1]
  exact ⟨by omega, fr_rf 28 _, fun h hh => absurd hh (by omega)⟩
