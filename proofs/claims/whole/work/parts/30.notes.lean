/-! the model: notes, a deed is remembered -/
def dN (r : Nat → Int32) : Nat := (r 13).toNatClampNeg
def sfj (r : Nat → Int32) (j : Nat) : Nat → Int32 := fun i => if 14 ≤ i ∧ i < 14 + j then r (i + 12) else r i
def ntj (r : Nat → Int32) (d j : Nat) : Nat → Int32 := fun i => if 14 + 12 * d ≤ i ∧ i < 14 + 12 * d + j then r (1 + (i - (14 + 12 * d))) else r i
def set13 (r : Nat → Int32) (d : Nat) : Nat → Int32 := fun i => if i = 13 then nI d else r i
/-- the row behind a deed -/
def nt (r : Nat → Int32) : Nat → Int32 := if dN r = 12 then set13 (ntj (set13 (sfj r 132) 11) 11 12) 12 else set13 (ntj r (dN r) 12) (dN r + 1)
def S_notes : px_S := fun av σ k => av = [.inr (.inr (some 0))] ∧ mt_R σ.2.2 ∧ σ.1 1 13 = nI (dN (σ.1 1)) ∧ dN (σ.1 1) ≤ 12 ∧ ∀ τ, fr 1 σ τ → τ.1 1 = nt (σ.1 1) → k none τ
def I_nt1 (σ : px_M) : Nat → px_Ls → px_M → Prop := fun j ls τ => ls = [some (.inr (.inr (some 0))), some (.inl (nI j))] ∧ fr 1 σ τ ∧ τ.1 1 = sfj (σ.1 1) j
def I_nt2 (r : Nat → Int32) (d : Nat) (σ : px_M) : Nat → px_Ls → px_M → Prop := fun j ls τ => ls = [some (.inr (.inr (some 0))), some (.inl (nI j))] ∧ fr 1 σ τ ∧ τ.1 1 = ntj r d j
theorem up_row1 {f : Nat → Nat → Int32} {l i : Nat} {v : Int32} : px_up f l i v l = fun j => if j = i then v else f l j := by
  funext j
  simp [px_up]
theorem sfj_s (r : Nat → Int32) (j : Nat) : (fun i => if i = 14 + j then sfj r j (26 + j) else sfj r j i) = sfj r (j + 1) := by
  funext i
  simp only [sfj]
  by_cases h : i = 14 + j
  · subst h
    rw [if_pos rfl, if_neg (by omega), if_pos (by omega), show 14 + j + 12 = 26 + j by omega]
  · rw [if_neg h]
    by_cases h2 : 14 ≤ i ∧ i < 14 + j
    · rw [if_pos h2, if_pos (by omega)]
    · rw [if_neg h2, if_neg (by omega)]
theorem ntj_s (r : Nat → Int32) {d j : Nat} (hj : j < 12) : (fun i => if i = 14 + 12 * d + j then ntj r d j (1 + j) else ntj r d j i) = ntj r d (j + 1) := by
  funext i
  simp only [ntj]
  by_cases h : i = 14 + 12 * d + j
  · subst h
    rw [if_pos rfl, if_neg (by omega), if_pos (by omega), show 1 + (14 + 12 * d + j - (14 + 12 * d)) = 1 + j by omega]
  · rw [if_neg h]
    by_cases h2 : 14 + 12 * d ≤ i ∧ i < 14 + 12 * d + j
    · rw [if_pos h2, if_pos (by omega)]
    · rw [if_neg h2, if_neg (by omega)]
theorem ntj_13 (r : Nat → Int32) (d j : Nat) : ntj r d j 13 = r 13 := by simp only [ntj]; rw [if_neg (by omega)]
theorem sfj_13 (r : Nat → Int32) (j : Nat) : sfj r j 13 = r 13 := by simp only [sfj]; rw [if_neg (by omega)]
theorem ntj_0 (r : Nat → Int32) (d : Nat) : ntj r d 0 = r := by
  funext i
  simp only [ntj]
  rw [if_neg (by omega)]
theorem sfj_0 (r : Nat → Int32) : sfj r 0 = r := by
  funext i
  simp only [sfj]
  rw [if_neg (by omega)]
set_option maxHeartbeats 4000000 in
set_option maxRecDepth 100000 in
theorem m_notes {tab : px_T} (ht : mt_ok tab) {h : Nat} (hh : 1 ≤ h) : px_Ok tab pn_i58 h S_notes := by
  refine px_mth ht.1 (by decide +kernel) (fun av σ k hS => by obtain ⟨rfl, hR, h13, hd, hS⟩ := hS; exact Nat.le_of_ble_eq_true rfl) (fun C hT hC av σ k hS => ?_)
  obtain ⟨rfl, hR, h13, hd, hS⟩ := hS
  subst hT
  -- the last loop, from a row with d deeds
  have lp2 := fun (r : Nat → Int32) (d : Nat) (hr13 : r 13 = nI d) (hd11 : d ≤ 11) (fin : ∀ τ, fr 1 σ τ → τ.1 1 = set13 (ntj r d 12) (d + 1) → k none τ) => px_loop (C := C) (k := k) (pc := 58) (I_nt2 r d σ) 12 (fun j ls τ hj hI hn2 => by
    obtain ⟨rfl, hfr, hrow⟩ := hI
    have hR' : mt_R τ.2.2 := by rw [hfr.2]; exact hR
    have e13 : τ.1 1 13 = nI d := by rw [hrow, ntj_13]; exact hr13
    refine px_runG (h - 1) ck_58 [] [(58, px_li (I_nt2 r d σ) j 12)] 24 hC px_nosp (by omega) (px_cut1 (px_li_ok hn2) px_nocut) (fun G Jf hG hJf => ?_)
    simp only [↓hG, ↓hJf, ↓px_go, ↓px_vc, ↓px_ex, ↓px_jp, ↓px_gi, ↓px_gl, ↓px_gr, ↓px_s1, ↓px_s2, ↓px_nl, ↓px_i1, ↓px_l1, ↓px_r1, ↓px_q1, ↓px_i2, ↓px_l2, ↓px_il, ↓px_d0, ↓px_d1, ↓px_d2, ↓px_pop, px_sz, ↓px_sp, ↓px_obj, ↓px_arr, ↓px_rd, ↓px_pt, ↓px_rok, ↓px_rv, ↓px_fill, ↓px_sl, ↓px_li, ↓px_l0, ↓px_lw, ↓px_lc, px_wi, px_wl, px_wr, px_up_at, lc_lt, lc_ge, lc_gt, lc_le, lc_eq, ↓reduceIte, Nat.reduceEqDiff, Nat.reduceLeDiff, Nat.reduceAdd, Nat.reduceSub, reduceCtorEq, List.length_cons, List.length_nil, Option.toList_some, Option.toList_none, List.cons_append, List.nil_append, true_and, and_true, false_and, and_false, true_or, or_true, false_or, or_false, and_self, or_self, not_false_eq_true, not_true_eq_false, false_implies, forall_const, true_implies, ↓bk_58, ↓pn_i58, I_nt2, mt_0 ht, mt_1 ht, mr_1 hR']
    try simp (disch := omega) only [true_and, and_true, mb_bit, mb_house, bcI_eq, px_up_row, ni_divL, ni_subL, nI_add, pk_mul, nI_leI, nI_ltI, nI_eq, vp_in_eq, nI_clamp, fa_and, fa_or, ni_bit1, ni_1s, nI_l, mb_eq0, mb_ne0, mb_eq1, e13, up_row1]
    refine ⟨fun q => ⟨by omega, by omega, ?_⟩, fun q => ⟨by omega, by omega, by omega, by omega, fr_up hfr _ _, ?_⟩⟩
    · have : j = 12 := by omega
      subst this
      refine fin _ (fr_up hfr _ _) ?_
      show px_up τ.1 1 13 (nI (d + 1)) 1 = _
      rw [up_row1, hrow]
      rfl
    · rw [hrow]
      exact ntj_s r (by omega))
  by_cases h12 : dN (σ.1 1) = 12
  · have e12 : σ.1 1 13 = nI 12 := by rw [h13, h12]
    have hnt : nt (σ.1 1) = set13 (ntj (set13 (sfj (σ.1 1) 132) 11) 11 12) 12 := by unfold nt; rw [if_pos h12]
    have l2 := lp2 (set13 (sfj (σ.1 1) 132) 11) 11 rfl (by omega) (fun τ h1 h2 => hS τ h1 (by rw [h2, hnt]))
    have lp1 := px_loop (C := C) (k := k) (pc := 14) (I_nt1 σ) 132 (fun j ls τ hj hI hn2 => by
      obtain ⟨rfl, hfr, hrow⟩ := hI
      have hR' : mt_R τ.2.2 := by rw [hfr.2]; exact hR
      have e13 : τ.1 1 13 = nI 12 := by rw [hrow, sfj_13]; exact e12
      refine px_runG (h - 1) ck_58 [] [(14, px_li (I_nt1 σ) j 132), (58, px_l0 (I_nt2 (set13 (sfj (σ.1 1) 132) 11) 11 σ))] 24 hC px_nosp (by omega) (px_cut1 (px_li_ok hn2) (px_cut1 (px_l0_ok l2) px_nocut)) (fun G Jf hG hJf => ?_)
      simp only [↓hG, ↓hJf, ↓px_go, ↓px_vc, ↓px_ex, ↓px_jp, ↓px_gi, ↓px_gl, ↓px_gr, ↓px_s1, ↓px_s2, ↓px_nl, ↓px_i1, ↓px_l1, ↓px_r1, ↓px_q1, ↓px_i2, ↓px_l2, ↓px_il, ↓px_d0, ↓px_d1, ↓px_d2, ↓px_pop, px_sz, ↓px_sp, ↓px_obj, ↓px_arr, ↓px_rd, ↓px_pt, ↓px_rok, ↓px_rv, ↓px_fill, ↓px_sl, ↓px_li, ↓px_l0, ↓px_lw, ↓px_lc, px_wi, px_wl, px_wr, px_up_at, lc_lt, lc_ge, lc_gt, lc_le, lc_eq, ↓reduceIte, Nat.reduceEqDiff, Nat.reduceLeDiff, Nat.reduceAdd, Nat.reduceSub, reduceCtorEq, List.length_cons, List.length_nil, Option.toList_some, Option.toList_none, List.cons_append, List.nil_append, true_and, and_true, false_and, and_false, true_or, or_true, false_or, or_false, and_self, or_self, not_false_eq_true, not_true_eq_false, false_implies, forall_const, true_implies, ↓bk_58, ↓pn_i58, I_nt1, I_nt2, mt_0 ht, mt_1 ht, mr_1 hR']
      try simp (disch := omega) only [true_and, and_true, mb_bit, mb_house, bcI_eq, px_up_row, ni_divL, ni_subL, nI_add, pk_mul, nI_leI, nI_ltI, nI_eq, vp_in_eq, nI_clamp, fa_and, fa_or, ni_bit1, ni_1s, nI_l, mb_eq0, mb_ne0, mb_eq1, e13, up_row1]
      refine ⟨fun q => ⟨by omega, by omega, fr_up hfr _ _, ?_⟩, fun q => ⟨by omega, by omega, by omega, fr_up hfr _ _, ?_⟩⟩
      · have : j = 132 := by omega
        subst this
        rw [hrow, ntj_0]
        rfl
      · rw [hrow]
        exact sfj_s _ j)
    refine px_runG (h - 1) ck_58 [] [(14, px_l0 (I_nt1 σ)), (58, (fun _ _ _ => False))] 24 hC px_nosp (by omega) (px_cut1 (px_l0_ok lp1) (px_cut1 (fun _ _ _ hz => hz.elim) px_nocut)) (fun G Jf hG hJf => ?_)
    simp only [↓hG, ↓hJf, ↓px_go, ↓px_vc, ↓px_ex, ↓px_jp, ↓px_gi, ↓px_gl, ↓px_gr, ↓px_s1, ↓px_s2, ↓px_nl, ↓px_i1, ↓px_l1, ↓px_r1, ↓px_q1, ↓px_i2, ↓px_l2, ↓px_il, ↓px_d0, ↓px_d1, ↓px_d2, ↓px_pop, px_sz, ↓px_sp, ↓px_obj, ↓px_arr, ↓px_rd, ↓px_pt, ↓px_rok, ↓px_rv, ↓px_fill, ↓px_sl, ↓px_li, ↓px_l0, ↓px_lw, ↓px_lc, px_wi, px_wl, px_wr, px_up_at, lc_lt, lc_ge, lc_gt, lc_le, lc_eq, ↓reduceIte, Nat.reduceEqDiff, Nat.reduceLeDiff, Nat.reduceAdd, Nat.reduceSub, reduceCtorEq, List.length_cons, List.length_nil, Option.toList_some, Option.toList_none, List.cons_append, List.nil_append, true_and, and_true, false_and, and_false, true_or, or_true, false_or, or_false, and_self, or_self, not_false_eq_true, not_true_eq_false, false_implies, forall_const, true_implies, ↓bk_58, ↓pn_i58, I_nt1, mt_0 ht, mt_1 ht, mr_1 hR]
    try simp (disch := omega) only [true_and, and_true, mb_bit, mb_house, bcI_eq, px_up_row, ni_divL, ni_subL, nI_add, pk_mul, nI_leI, nI_ltI, nI_eq, vp_in_eq, nI_clamp, fa_and, fa_or, ni_bit1, ni_1s, nI_l, mb_eq0, mb_ne0, mb_eq1, e12]
    exact ⟨by omega, fun q => absurd trivial q, fun _ => ⟨fr_rf 1 σ, (sfj_0 _).symm⟩⟩
  · have hnt : nt (σ.1 1) = set13 (ntj (σ.1 1) (dN (σ.1 1)) 12) (dN (σ.1 1) + 1) := by unfold nt; rw [if_neg h12]
    have l2 := lp2 (σ.1 1) (dN (σ.1 1)) h13 (by omega) (fun τ h1 h2 => hS τ h1 (by rw [h2, hnt]))
    refine px_runG (h - 1) ck_58 [] [(14, (fun _ _ _ => False)), (58, px_l0 (I_nt2 (σ.1 1) (dN (σ.1 1)) σ))] 24 hC px_nosp (by omega) (px_cut1 (fun _ _ _ hz => hz.elim) (px_cut1 (px_l0_ok l2) px_nocut)) (fun G Jf hG hJf => ?_)
    simp only [↓hG, ↓hJf, ↓px_go, ↓px_vc, ↓px_ex, ↓px_jp, ↓px_gi, ↓px_gl, ↓px_gr, ↓px_s1, ↓px_s2, ↓px_nl, ↓px_i1, ↓px_l1, ↓px_r1, ↓px_q1, ↓px_i2, ↓px_l2, ↓px_il, ↓px_d0, ↓px_d1, ↓px_d2, ↓px_pop, px_sz, ↓px_sp, ↓px_obj, ↓px_arr, ↓px_rd, ↓px_pt, ↓px_rok, ↓px_rv, ↓px_fill, ↓px_sl, ↓px_li, ↓px_l0, ↓px_lw, ↓px_lc, px_wi, px_wl, px_wr, px_up_at, lc_lt, lc_ge, lc_gt, lc_le, lc_eq, ↓reduceIte, Nat.reduceEqDiff, Nat.reduceLeDiff, Nat.reduceAdd, Nat.reduceSub, reduceCtorEq, List.length_cons, List.length_nil, Option.toList_some, Option.toList_none, List.cons_append, List.nil_append, true_and, and_true, false_and, and_false, true_or, or_true, false_or, or_false, and_self, or_self, not_false_eq_true, not_true_eq_false, false_implies, forall_const, true_implies, ↓bk_58, ↓pn_i58, I_nt2, mt_0 ht, mt_1 ht, mr_1 hR]
    try simp (disch := omega) only [true_and, and_true, mb_bit, mb_house, bcI_eq, px_up_row, ni_divL, ni_subL, nI_add, pk_mul, nI_leI, nI_ltI, nI_eq, vp_in_eq, nI_clamp, fa_and, fa_or, ni_bit1, ni_1s, nI_l, mb_eq0, mb_ne0, mb_eq1, h13]
    exact ⟨by omega, fun q => ⟨fr_rf 1 σ, (ntj_0 _ _).symm⟩, fun q => absurd q h12⟩
