/-! the model: restore -/
def rsr (r : Nat → Int32) (i j : Nat) : Nat → Int32 := fun p => if p < j then r (1072 * (i + 1) + p) else r p
theorem rsr_0 (r : Nat → Int32) (i : Nat) : rsr r i 0 = r := by
  funext p
  simp only [rsr]
  rw [if_neg (by omega)]
theorem rsr_s (r : Nat → Int32) {i j : Nat} (hj : j < 1072) : (fun p => if p = j then rsr r i j (1072 * (i + 1) + j) else rsr r i j p) = rsr r i (j + 1) := by
  funext p
  simp only [rsr]
  by_cases h : p = j
  · subst h
    rw [if_pos rfl, if_neg (by omega), if_pos (by omega)]
  · rw [if_neg h]
    by_cases h2 : p < j
    · rw [if_pos h2, if_pos (by omega)]
    · rw [if_neg h2, if_neg (by omega)]
def S_restore : px_S := fun av σ k => match av with
  | [.inr (.inr (some 0)), .inl x] => mt_R σ.2.2 ∧ (im_c x = false → k (some (.inl (-2))) (px_wi σ 0 0 (nI 0))) ∧ ∀ (i : Nat), i < 2 → x = nI i → (σ.1 2 i = nI 0 → k (some (.inl (-5))) (px_wi σ 0 0 (nI 0))) ∧ (¬ σ.1 2 i = nI 0 → ∀ τ, fr 1 (px_wi σ 0 0 (nI 0)) τ → τ.1 1 = rsr (σ.1 1) i 1072 → k (some (.inl (nI 0))) τ)
  | _ => False
theorem S_restore_sp {av : List px_V} {σ : px_M} {k : Option px_V → px_M → Prop} (h : S_restore av σ k) : ∃ x, av = [.inr (.inr (some 0)), .inl x] ∧ (mt_R σ.2.2 ∧ (im_c x = false → k (some (.inl (-2))) (px_wi σ 0 0 (nI 0))) ∧ ∀ (i : Nat), i < 2 → x = nI i → (σ.1 2 i = nI 0 → k (some (.inl (-5))) (px_wi σ 0 0 (nI 0))) ∧ (¬ σ.1 2 i = nI 0 → ∀ τ, fr 1 (px_wi σ 0 0 (nI 0)) τ → τ.1 1 = rsr (σ.1 1) i 1072 → k (some (.inl (nI 0))) τ)) := by
  unfold S_restore at h
  split at h
  · exact ⟨_, rfl, h⟩
  · exact h.elim
def I_rst (i : Nat) (σ : px_M) : Nat → px_Ls → px_M → Prop := fun j ls τ => ls = [some (.inr (.inr (some 0))), some (.inl (nI i)), some (.inl (nI j))] ∧ fr 1 (px_wi σ 0 0 (nI 0)) τ ∧ τ.1 1 = rsr (σ.1 1) i j
set_option maxHeartbeats 4000000 in
set_option maxRecDepth 100000 in
theorem m_restore {tab : px_T} (ht : mt_ok tab) {h : Nat} (hh : 2 ≤ h) : px_Ok tab pn_i132 h S_restore := by
  refine px_mth ht.1 (by decide +kernel) (fun av σ k hS => by obtain ⟨x, rfl, hR, hS1, hS2⟩ := S_restore_sp hS; exact Nat.le_of_ble_eq_true rfl) (fun C hT hC av σ k hS => ?_)
  replace hS := S_restore_sp hS
  obtain ⟨x, rfl, hR, hS1, hS2⟩ := hS
  subst hT
  cases hc : im_c x with
  | false =>
    have hc2 := hc
    unfold im_c at hc2
    refine px_runG (h - 1) ck_132 [(2, S_within)] [(18, (fun _ _ _ => False))] 24 hC (px_sp1 (m_within ht (by omega)) px_nosp) (by omega) (px_cut1 (fun _ _ _ hz => hz.elim) px_nocut) (fun G Jf hG hJf => ?_)
    simp only [↓hG, ↓hJf, ↓px_go, ↓px_vc, ↓px_ex, ↓px_jp, ↓px_gi, ↓px_gl, ↓px_gr, ↓px_s1, ↓px_s2, ↓px_nl, ↓px_i1, ↓px_l1, ↓px_r1, ↓px_q1, ↓px_i2, ↓px_l2, ↓px_il, ↓px_d0, ↓px_d1, ↓px_d2, ↓px_pop, px_sz, ↓px_sp, ↓px_obj, ↓px_arr, ↓px_rd, ↓px_pt, ↓px_rok, ↓px_rv, ↓px_fill, ↓px_sl, ↓px_li, ↓px_l0, ↓px_lw, ↓px_lc, px_wi, px_wl, px_wr, px_up_at, lc_lt, lc_ge, lc_gt, lc_le, lc_eq, ↓reduceIte, Nat.reduceEqDiff, Nat.reduceLeDiff, Nat.reduceAdd, Nat.reduceSub, reduceCtorEq, List.length_cons, List.length_nil, Option.toList_some, Option.toList_none, List.cons_append, List.nil_append, true_and, and_true, false_and, and_false, true_or, or_true, false_or, or_false, and_self, or_self, not_false_eq_true, not_true_eq_false, false_implies, forall_const, true_implies, ↓bk_132, ↓pn_i132, ↓S_within, mt_0 ht]
    try simp (disch := omega) only [true_and, and_true, mb_bit, mb_house, bcI_eq, px_up_row, ni_divL, ni_subL, nI_add, pk_mul, nI_leI, nI_ltI, nI_eq, vp_in_eq, nI_clamp, fa_and, fa_or, ni_bit1, ni_1s, nI_l, mb_eq0, mb_ne0, mb_eq1, hc2]
    first | exact hS1 hc | exact ⟨fun q => absurd rfl q, fun _ => hS1 hc⟩ | exact ⟨fun q => absurd trivial q, fun _ => hS1 hc⟩
  | true =>
    obtain ⟨i, hi, rfl⟩ := im_of hc
    have hc2 := hc
    unfold im_c at hc2
    rw [nI_l (by omega)] at hc2
    obtain ⟨hSa, hSb⟩ := hS2 i hi rfl
    by_cases him : σ.1 2 i = nI 0
    ·
      refine px_runG (h - 1) ck_132 [(2, S_within)] [(32, (fun _ _ _ => False))] 24 hC (px_sp1 (m_within ht (by omega)) px_nosp) (by omega) (px_cut1 (fun _ _ _ hz => hz.elim) px_nocut) (fun G Jf hG hJf => ?_)
      simp only [↓hG, ↓hJf, ↓px_go, ↓px_vc, ↓px_ex, ↓px_jp, ↓px_gi, ↓px_gl, ↓px_gr, ↓px_s1, ↓px_s2, ↓px_nl, ↓px_i1, ↓px_l1, ↓px_r1, ↓px_q1, ↓px_i2, ↓px_l2, ↓px_il, ↓px_d0, ↓px_d1, ↓px_d2, ↓px_pop, px_sz, ↓px_sp, ↓px_obj, ↓px_arr, ↓px_rd, ↓px_pt, ↓px_rok, ↓px_rv, ↓px_fill, ↓px_sl, ↓px_li, ↓px_l0, ↓px_lw, ↓px_lc, px_wi, px_wl, px_wr, px_up_at, lc_lt, lc_ge, lc_gt, lc_le, lc_eq, ↓reduceIte, Nat.reduceEqDiff, Nat.reduceLeDiff, Nat.reduceAdd, Nat.reduceSub, reduceCtorEq, List.length_cons, List.length_nil, Option.toList_some, Option.toList_none, List.cons_append, List.nil_append, true_and, and_true, false_and, and_false, true_or, or_true, false_or, or_false, and_self, or_self, not_false_eq_true, not_true_eq_false, false_implies, forall_const, true_implies, ↓bk_132, ↓pn_i132, ↓S_within, mt_0 ht, mt_2 ht, mr_2 hR]
      try simp (disch := omega) only [true_and, and_true, mb_bit, mb_house, bcI_eq, px_up_row, ni_divL, ni_subL, nI_add, pk_mul, nI_leI, nI_ltI, nI_eq, vp_in_eq, nI_clamp, fa_and, fa_or, ni_bit1, ni_1s, nI_l, mb_eq0, mb_ne0, mb_eq1, hc2]
      first | exact ⟨by omega, fun q => absurd him q, fun _ => hSa him⟩ | exact ⟨fun _ => ⟨by omega, fun q => absurd him q, fun _ => hSa him⟩, fun q => by cases q⟩
    · have lp := px_loop (C := C) (k := k) (pc := 32) (I_rst i σ) 1072 (fun j ls τ hj hI hn2 => by
        obtain ⟨rfl, hfr, hrow⟩ := hI
        have hR' : mt_R τ.2.2 := by rw [hfr.2]; exact hR
        refine px_runG (h - 1) ck_132 [] [(32, px_li (I_rst i σ) j 1072)] 24 hC px_nosp (by omega) (px_cut1 (px_li_ok hn2) px_nocut) (fun G Jf hG hJf => ?_)
        simp only [↓hG, ↓hJf, ↓px_go, ↓px_vc, ↓px_ex, ↓px_jp, ↓px_gi, ↓px_gl, ↓px_gr, ↓px_s1, ↓px_s2, ↓px_nl, ↓px_i1, ↓px_l1, ↓px_r1, ↓px_q1, ↓px_i2, ↓px_l2, ↓px_il, ↓px_d0, ↓px_d1, ↓px_d2, ↓px_pop, px_sz, ↓px_sp, ↓px_obj, ↓px_arr, ↓px_rd, ↓px_pt, ↓px_rok, ↓px_rv, ↓px_fill, ↓px_sl, ↓px_li, ↓px_l0, ↓px_lw, ↓px_lc, px_wi, px_wl, px_wr, px_up_at, lc_lt, lc_ge, lc_gt, lc_le, lc_eq, ↓reduceIte, Nat.reduceEqDiff, Nat.reduceLeDiff, Nat.reduceAdd, Nat.reduceSub, reduceCtorEq, List.length_cons, List.length_nil, Option.toList_some, Option.toList_none, List.cons_append, List.nil_append, true_and, and_true, false_and, and_false, true_or, or_true, false_or, or_false, and_self, or_self, not_false_eq_true, not_true_eq_false, false_implies, forall_const, true_implies, ↓bk_132, ↓pn_i132, I_rst, mt_0 ht, mt_1 ht, mr_1 hR']
        try simp (disch := omega) only [true_and, and_true, mb_bit, mb_house, bcI_eq, px_up_row, ni_divL, ni_subL, nI_add, pk_mul, nI_leI, nI_ltI, nI_eq, vp_in_eq, nI_clamp, fa_and, fa_or, ni_bit1, ni_1s, nI_l, mb_eq0, mb_ne0, mb_eq1, up_row1]
        refine ⟨fun q => ?_, fun q => ⟨by omega, by omega, by omega, fr_up hfr _ _, ?_⟩⟩
        · have : j = 1072 := by omega
          subst this
          exact hSb him τ hfr hrow
        · rw [hrow]
          exact rsr_s _ (by omega))
      refine px_runG (h - 1) ck_132 [(2, S_within)] [(32, px_l0 (I_rst i σ))] 24 hC (px_sp1 (m_within ht (by omega)) px_nosp) (by omega) (px_cut1 (px_l0_ok lp) px_nocut) (fun G Jf hG hJf => ?_)
      simp only [↓hG, ↓hJf, ↓px_go, ↓px_vc, ↓px_ex, ↓px_jp, ↓px_gi, ↓px_gl, ↓px_gr, ↓px_s1, ↓px_s2, ↓px_nl, ↓px_i1, ↓px_l1, ↓px_r1, ↓px_q1, ↓px_i2, ↓px_l2, ↓px_il, ↓px_d0, ↓px_d1, ↓px_d2, ↓px_pop, px_sz, ↓px_sp, ↓px_obj, ↓px_arr, ↓px_rd, ↓px_pt, ↓px_rok, ↓px_rv, ↓px_fill, ↓px_sl, ↓px_li, ↓px_l0, ↓px_lw, ↓px_lc, px_wi, px_wl, px_wr, px_up_at, lc_lt, lc_ge, lc_gt, lc_le, lc_eq, ↓reduceIte, Nat.reduceEqDiff, Nat.reduceLeDiff, Nat.reduceAdd, Nat.reduceSub, reduceCtorEq, List.length_cons, List.length_nil, Option.toList_some, Option.toList_none, List.cons_append, List.nil_append, true_and, and_true, false_and, and_false, true_or, or_true, false_or, or_false, and_self, or_self, not_false_eq_true, not_true_eq_false, false_implies, forall_const, true_implies, ↓bk_132, ↓pn_i132, ↓S_within, I_rst, mt_0 ht, mt_2 ht, mr_2 hR]
      try simp (disch := omega) only [true_and, and_true, mb_bit, mb_house, bcI_eq, px_up_row, ni_divL, ni_subL, nI_add, pk_mul, nI_leI, nI_ltI, nI_eq, vp_in_eq, nI_clamp, fa_and, fa_or, ni_bit1, ni_1s, nI_l, mb_eq0, mb_ne0, mb_eq1, hc2]
      have hf : fr 1 (px_wi σ 0 0 (nI 0)) (px_up σ.1 0 0 (nI 0), σ.2) ∧ σ.1 1 = rsr (σ.1 1) i 0 := ⟨fr_rf 1 _, (rsr_0 _ _).symm⟩
      first | exact ⟨by omega, fun _ => hf, fun q => absurd q him⟩ | exact ⟨fun _ => ⟨by omega, fun _ => hf, fun q => absurd q him⟩, fun q => by cases q⟩
