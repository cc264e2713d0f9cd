/-! the model: image, restore -/
def im_c (x : Int32) : Bool := decide (lN 0 ≤ x.toInt64) && decide (x.toInt64 ≤ lN 1)
theorem im_of {x : Int32} (h : im_c x = true) : ∃ i, i < 2 ∧ x = nI i := by
  unfold im_c at h
  rw [Bool.and_eq_true, decide_eq_true_eq, decide_eq_true_eq, fa_le64, fa_le64, Int32.toInt_toInt64] at h
  have e0 : (lN 0).toInt = 0 := by decide
  have e1 : (lN 1).toInt = 1 := by decide
  rw [e0, e1] at h
  refine ⟨x.toInt.toNat, by omega, ?_⟩
  apply Int32.toInt_inj.mp
  rw [nI_toInt (by omega)]
  omega
def imr (r : Nat → Int32) (i j : Nat) : Nat → Int32 := fun p => if 1072 * (i + 1) ≤ p ∧ p < 1072 * (i + 1) + j then r (p - 1072 * (i + 1)) else r p
theorem imr_0 (r : Nat → Int32) (i : Nat) : imr r i 0 = r := by
  funext p
  simp only [imr]
  rw [if_neg (by omega)]
theorem imr_s (r : Nat → Int32) {i j : Nat} (hj : j < 1072) : (fun p => if p = 1072 * (i + 1) + j then imr r i j j else imr r i j p) = imr r i (j + 1) := by
  funext p
  simp only [imr]
  by_cases h : p = 1072 * (i + 1) + j
  · subst h
    rw [if_pos rfl, if_neg (by omega), if_pos (by omega), show 1072 * (i + 1) + j - 1072 * (i + 1) = j by omega]
  · rw [if_neg h]
    by_cases h2 : 1072 * (i + 1) ≤ p ∧ p < 1072 * (i + 1) + j
    · rw [if_pos h2, if_pos (by omega)]
    · rw [if_neg h2, if_neg (by omega)]
def S_image : px_S := fun av σ k => match av with
  | [.inr (.inr (some 0)), .inl x] => mt_R σ.2.2 ∧ (im_c x = false → k (some (.inl (-2))) (px_wi σ 0 0 (nI 0))) ∧ ∀ (i : Nat) (τ : px_M), i < 2 → x = nI i → fr 1 (px_wi σ 0 0 (nI 0)) τ → τ.1 1 = imr (σ.1 1) i 1072 → k (some (.inl (nI 0))) (px_wi τ 2 i (nI 1))
  | _ => False
theorem S_image_sp {av : List px_V} {σ : px_M} {k : Option px_V → px_M → Prop} (h : S_image av σ k) : ∃ x, av = [.inr (.inr (some 0)), .inl x] ∧ (mt_R σ.2.2 ∧ (im_c x = false → k (some (.inl (-2))) (px_wi σ 0 0 (nI 0))) ∧ ∀ (i : Nat) (τ : px_M), i < 2 → x = nI i → fr 1 (px_wi σ 0 0 (nI 0)) τ → τ.1 1 = imr (σ.1 1) i 1072 → k (some (.inl (nI 0))) (px_wi τ 2 i (nI 1))) := by
  unfold S_image at h
  split at h
  · exact ⟨_, rfl, h⟩
  · exact h.elim
def I_img (i : Nat) (σ : px_M) : Nat → px_Ls → px_M → Prop := fun j ls τ => ls = [some (.inr (.inr (some 0))), some (.inl (nI i)), some (.inl (nI j))] ∧ fr 1 (px_wi σ 0 0 (nI 0)) τ ∧ τ.1 1 = imr (σ.1 1) i j
set_option maxHeartbeats 4000000 in
set_option maxRecDepth 100000 in
theorem m_image {tab : px_T} (ht : mt_ok tab) {h : Nat} (hh : 2 ≤ h) : px_Ok tab pn_i131 h S_image := by
  refine px_mth ht.1 (by decide +kernel) (fun av σ k hS => by obtain ⟨x, rfl, hR, hS1, hS2⟩ := S_image_sp hS; exact Nat.le_of_ble_eq_true rfl) (fun C hT hC av σ k hS => ?_)
  replace hS := S_image_sp hS
  obtain ⟨x, rfl, hR, hS1, hS2⟩ := hS
  subst hT
  cases hc : im_c x with
  | false =>
    have hc2 := hc
    unfold im_c at hc2
    refine px_runG (h - 1) ck_131 [(2, S_within)] [(20, (fun _ _ _ => False))] 24 hC (px_sp1 (m_within ht (by omega)) px_nosp) (by omega) (px_cut1 (fun _ _ _ hz => hz.elim) px_nocut) (fun G Jf hG hJf => ?_)
    simp only [↓hG, ↓hJf, ↓px_go, ↓px_vc, ↓px_ex, ↓px_jp, ↓px_gi, ↓px_gl, ↓px_gr, ↓px_s1, ↓px_s2, ↓px_nl, ↓px_i1, ↓px_l1, ↓px_r1, ↓px_q1, ↓px_i2, ↓px_l2, ↓px_il, ↓px_d0, ↓px_d1, ↓px_d2, ↓px_pop, px_sz, ↓px_sp, ↓px_obj, ↓px_arr, ↓px_rd, ↓px_pt, ↓px_rok, ↓px_rv, ↓px_fill, ↓px_sl, ↓px_li, ↓px_l0, ↓px_lw, ↓px_lc, px_wi, px_wl, px_wr, px_up_at, lc_lt, lc_ge, lc_gt, lc_le, lc_eq, ↓reduceIte, Nat.reduceEqDiff, Nat.reduceLeDiff, Nat.reduceAdd, Nat.reduceSub, reduceCtorEq, List.length_cons, List.length_nil, Option.toList_some, Option.toList_none, List.cons_append, List.nil_append, true_and, and_true, false_and, and_false, true_or, or_true, false_or, or_false, and_self, or_self, not_false_eq_true, not_true_eq_false, false_implies, forall_const, true_implies, ↓bk_131, ↓pn_i131, ↓S_within, mt_0 ht]
    try simp (disch := omega) only [true_and, and_true, mb_bit, mb_house, bcI_eq, px_up_row, ni_divL, ni_subL, nI_add, pk_mul, nI_leI, nI_ltI, nI_eq, vp_in_eq, nI_clamp, fa_and, fa_or, ni_bit1, ni_1s, nI_l, mb_eq0, mb_ne0, mb_eq1, hc2]
    first | exact hS1 hc | exact ⟨fun q => absurd rfl q, fun _ => hS1 hc⟩ | exact ⟨fun q => absurd trivial q, fun _ => hS1 hc⟩
  | true =>
    obtain ⟨i, hi, rfl⟩ := im_of hc
    have hc2 := hc
    unfold im_c at hc2
    rw [nI_l (by omega)] at hc2
    have lp := px_loop (C := C) (k := k) (pc := 20) (I_img i σ) 1072 (fun j ls τ hj hI hn2 => by
      obtain ⟨rfl, hfr, hrow⟩ := hI
      have hR' : mt_R τ.2.2 := by rw [hfr.2]; exact hR
      refine px_runG (h - 1) ck_131 [] [(20, px_li (I_img i σ) j 1072)] 24 hC px_nosp (by omega) (px_cut1 (px_li_ok hn2) px_nocut) (fun G Jf hG hJf => ?_)
      simp only [↓hG, ↓hJf, ↓px_go, ↓px_vc, ↓px_ex, ↓px_jp, ↓px_gi, ↓px_gl, ↓px_gr, ↓px_s1, ↓px_s2, ↓px_nl, ↓px_i1, ↓px_l1, ↓px_r1, ↓px_q1, ↓px_i2, ↓px_l2, ↓px_il, ↓px_d0, ↓px_d1, ↓px_d2, ↓px_pop, px_sz, ↓px_sp, ↓px_obj, ↓px_arr, ↓px_rd, ↓px_pt, ↓px_rok, ↓px_rv, ↓px_fill, ↓px_sl, ↓px_li, ↓px_l0, ↓px_lw, ↓px_lc, px_wi, px_wl, px_wr, px_up_at, lc_lt, lc_ge, lc_gt, lc_le, lc_eq, ↓reduceIte, Nat.reduceEqDiff, Nat.reduceLeDiff, Nat.reduceAdd, Nat.reduceSub, reduceCtorEq, List.length_cons, List.length_nil, Option.toList_some, Option.toList_none, List.cons_append, List.nil_append, true_and, and_true, false_and, and_false, true_or, or_true, false_or, or_false, and_self, or_self, not_false_eq_true, not_true_eq_false, false_implies, forall_const, true_implies, ↓bk_131, ↓pn_i131, I_img, mt_0 ht, mt_1 ht, mt_2 ht, mr_1 hR', mr_2 hR']
      try simp (disch := omega) only [true_and, and_true, mb_bit, mb_house, bcI_eq, px_up_row, ni_divL, ni_subL, nI_add, pk_mul, nI_leI, nI_ltI, nI_eq, vp_in_eq, nI_clamp, fa_and, fa_or, ni_bit1, ni_1s, nI_l, mb_eq0, mb_ne0, mb_eq1, up_row1]
      refine ⟨fun q => ?_, fun q => ⟨by omega, by omega, by omega, fr_up hfr _ _, ?_⟩⟩
      · have : j = 1072 := by omega
        subst this
        have hf := hS2 i τ hi rfl hfr hrow
        exact ⟨by omega, hf⟩
      · rw [hrow]
        exact imr_s _ (by omega))
    refine px_runG (h - 1) ck_131 [(2, S_within)] [(20, px_l0 (I_img i σ))] 24 hC (px_sp1 (m_within ht (by omega)) px_nosp) (by omega) (px_cut1 (px_l0_ok lp) px_nocut) (fun G Jf hG hJf => ?_)
    simp only [↓hG, ↓hJf, ↓px_go, ↓px_vc, ↓px_ex, ↓px_jp, ↓px_gi, ↓px_gl, ↓px_gr, ↓px_s1, ↓px_s2, ↓px_nl, ↓px_i1, ↓px_l1, ↓px_r1, ↓px_q1, ↓px_i2, ↓px_l2, ↓px_il, ↓px_d0, ↓px_d1, ↓px_d2, ↓px_pop, px_sz, ↓px_sp, ↓px_obj, ↓px_arr, ↓px_rd, ↓px_pt, ↓px_rok, ↓px_rv, ↓px_fill, ↓px_sl, ↓px_li, ↓px_l0, ↓px_lw, ↓px_lc, px_wi, px_wl, px_wr, px_up_at, lc_lt, lc_ge, lc_gt, lc_le, lc_eq, ↓reduceIte, Nat.reduceEqDiff, Nat.reduceLeDiff, Nat.reduceAdd, Nat.reduceSub, reduceCtorEq, List.length_cons, List.length_nil, Option.toList_some, Option.toList_none, List.cons_append, List.nil_append, true_and, and_true, false_and, and_false, true_or, or_true, false_or, or_false, and_self, or_self, not_false_eq_true, not_true_eq_false, false_implies, forall_const, true_implies, ↓bk_131, ↓pn_i131, ↓S_within, I_img, mt_0 ht]
    try simp (disch := omega) only [true_and, and_true, mb_bit, mb_house, bcI_eq, px_up_row, ni_divL, ni_subL, nI_add, pk_mul, nI_leI, nI_ltI, nI_eq, vp_in_eq, nI_clamp, fa_and, fa_or, ni_bit1, ni_1s, nI_l, mb_eq0, mb_ne0, mb_eq1, hc2]
    have hf : fr 1 (px_wi σ 0 0 (nI 0)) (px_up σ.1 0 0 (nI 0), σ.2) ∧ σ.1 1 = imr (σ.1 1) i 0 := ⟨fr_rf 1 _, (imr_0 _ _).symm⟩
    first | exact hf | exact ⟨fun _ => hf, fun q => by cases q⟩
