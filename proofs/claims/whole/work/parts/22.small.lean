/-! the model: small methods -/
def S_isSmall : px_S := fun av σ k => match av with
  | [.inl c] => k (some (.inl (mb (decide (nI 97 ≤ c) && decide (c ≤ nI 122))))) σ
  | _ => False
theorem S_isSmall_sp {av : List px_V} {σ : px_M} {k : Option px_V → px_M → Prop} (h : S_isSmall av σ k) : ∃ c, av = [.inl c] ∧ (k (some (.inl (mb (decide (nI 97 ≤ c) && decide (c ≤ nI 122))))) σ) := by
  unfold S_isSmall at h
  split at h
  · exact ⟨_, rfl, h⟩
  · exact h.elim
set_option maxHeartbeats 4000000 in
set_option maxRecDepth 100000 in
theorem m_isSmall {tab : px_T} (ht : mt_ok tab) {h : Nat} (hh : 1 ≤ h) : px_Ok tab pn_i6 h S_isSmall := by
  refine px_mth ht.1 (by decide +kernel) (fun av σ k hS => by obtain ⟨c, rfl, hS⟩ := S_isSmall_sp hS; exact Nat.le_of_ble_eq_true rfl) (fun C hT hC av σ k hS => ?_)
  replace hS := S_isSmall_sp hS
  obtain ⟨c, rfl, hS⟩ := hS
  subst hT
  refine px_runG (h - 1) ck_6 [] [] 24 hC px_nosp (by omega) px_nocut (fun G Jf hG hJf => ?_)
  simp only [↓hG, ↓hJf, ↓px_go, ↓px_vc, ↓px_ex, ↓px_jp, ↓px_gi, ↓px_gl, ↓px_gr, ↓px_s1, ↓px_s2, ↓px_nl, ↓px_i1, ↓px_l1, ↓px_r1, ↓px_q1, ↓px_i2, ↓px_l2, ↓px_il, ↓px_d0, ↓px_d1, ↓px_d2, ↓px_pop, px_sz, ↓px_sp, ↓px_obj, ↓px_arr, ↓px_rd, ↓px_pt, ↓px_rok, ↓px_rv, ↓px_fill, ↓px_sl, ↓px_li, ↓px_l0, ↓px_lw, ↓px_lc, px_wi, px_wl, px_wr, px_up_at, lc_lt, lc_ge, lc_gt, lc_le, lc_eq, ↓reduceIte, Nat.reduceEqDiff, Nat.reduceLeDiff, Nat.reduceAdd, Nat.reduceSub, reduceCtorEq, List.length_cons, List.length_nil, Option.toList_some, Option.toList_none, List.cons_append, List.nil_append, true_and, and_true, false_and, and_false, true_or, or_true, false_or, or_false, and_self, or_self, not_false_eq_true, not_true_eq_false, false_implies, forall_const, true_implies, ↓bk_6, ↓pn_i6]
  try simp (disch := omega) only [true_and, and_true, mb_bit, mb_house, bcI_eq, px_up_row, ni_divL, ni_subL, nI_add, pk_mul, nI_leI, nI_ltI, nI_eq, vp_in_eq, nI_clamp, fa_and, fa_or, ni_bit1, ni_1s, nI_l, mb_eq0, mb_ne0, mb_eq1]
  refine ⟨fun h1 => ?_, fun h1 => ⟨fun h2 => ?_, fun h2 => ?_⟩⟩
  · rw [decide_eq_false (Int32.not_le.mpr h1)] at hS; exact hS
  · rw [decide_eq_false (Int32.not_le.mpr h2), Bool.and_false] at hS; exact hS
  · rw [decide_eq_true (Int32.not_lt.mp h1), decide_eq_true (Int32.not_lt.mp h2)] at hS; exact hS
def S_isDigit : px_S := fun av σ k => match av with
  | [.inl c] => k (some (.inl (mb (decide (nI 48 ≤ c) && decide (c ≤ nI 57))))) σ
  | _ => False
theorem S_isDigit_sp {av : List px_V} {σ : px_M} {k : Option px_V → px_M → Prop} (h : S_isDigit av σ k) : ∃ c, av = [.inl c] ∧ (k (some (.inl (mb (decide (nI 48 ≤ c) && decide (c ≤ nI 57))))) σ) := by
  unfold S_isDigit at h
  split at h
  · exact ⟨_, rfl, h⟩
  · exact h.elim
set_option maxHeartbeats 4000000 in
set_option maxRecDepth 100000 in
theorem m_isDigit {tab : px_T} (ht : mt_ok tab) {h : Nat} (hh : 1 ≤ h) : px_Ok tab pn_i7 h S_isDigit := by
  refine px_mth ht.1 (by decide +kernel) (fun av σ k hS => by obtain ⟨c, rfl, hS⟩ := S_isDigit_sp hS; exact Nat.le_of_ble_eq_true rfl) (fun C hT hC av σ k hS => ?_)
  replace hS := S_isDigit_sp hS
  obtain ⟨c, rfl, hS⟩ := hS
  subst hT
  refine px_runG (h - 1) ck_7 [] [] 24 hC px_nosp (by omega) px_nocut (fun G Jf hG hJf => ?_)
  simp only [↓hG, ↓hJf, ↓px_go, ↓px_vc, ↓px_ex, ↓px_jp, ↓px_gi, ↓px_gl, ↓px_gr, ↓px_s1, ↓px_s2, ↓px_nl, ↓px_i1, ↓px_l1, ↓px_r1, ↓px_q1, ↓px_i2, ↓px_l2, ↓px_il, ↓px_d0, ↓px_d1, ↓px_d2, ↓px_pop, px_sz, ↓px_sp, ↓px_obj, ↓px_arr, ↓px_rd, ↓px_pt, ↓px_rok, ↓px_rv, ↓px_fill, ↓px_sl, ↓px_li, ↓px_l0, ↓px_lw, ↓px_lc, px_wi, px_wl, px_wr, px_up_at, lc_lt, lc_ge, lc_gt, lc_le, lc_eq, ↓reduceIte, Nat.reduceEqDiff, Nat.reduceLeDiff, Nat.reduceAdd, Nat.reduceSub, reduceCtorEq, List.length_cons, List.length_nil, Option.toList_some, Option.toList_none, List.cons_append, List.nil_append, true_and, and_true, false_and, and_false, true_or, or_true, false_or, or_false, and_self, or_self, not_false_eq_true, not_true_eq_false, false_implies, forall_const, true_implies, ↓bk_7, ↓pn_i7]
  try simp (disch := omega) only [true_and, and_true, mb_bit, mb_house, bcI_eq, px_up_row, ni_divL, ni_subL, nI_add, pk_mul, nI_leI, nI_ltI, nI_eq, vp_in_eq, nI_clamp, fa_and, fa_or, ni_bit1, ni_1s, nI_l, mb_eq0, mb_ne0, mb_eq1]
  refine ⟨fun h1 => ?_, fun h1 => ⟨fun h2 => ?_, fun h2 => ?_⟩⟩
  · rw [decide_eq_false (Int32.not_le.mpr h1)] at hS; exact hS
  · rw [decide_eq_false (Int32.not_le.mpr h2), Bool.and_false] at hS; exact hS
  · rw [decide_eq_true (Int32.not_lt.mp h1), decide_eq_true (Int32.not_lt.mp h2)] at hS; exact hS
def S_is : px_S := fun av σ k => match av with
  | [.inr (.inr (some 0)), .inl w] => k (some (.inl (mb (decide (σ.1 0 11 = nI 0) && decide (σ.1 0 9 = w))))) σ
  | _ => False
theorem S_is_sp {av : List px_V} {σ : px_M} {k : Option px_V → px_M → Prop} (h : S_is av σ k) : ∃ w, av = [.inr (.inr (some 0)), .inl w] ∧ (k (some (.inl (mb (decide (σ.1 0 11 = nI 0) && decide (σ.1 0 9 = w))))) σ) := by
  unfold S_is at h
  split at h
  · exact ⟨_, rfl, h⟩
  · exact h.elim
set_option maxHeartbeats 4000000 in
set_option maxRecDepth 100000 in
theorem m_is {tab : px_T} (ht : mt_ok tab) {h : Nat} (hh : 1 ≤ h) : px_Ok tab pn_i11 h S_is := by
  refine px_mth ht.1 (by decide +kernel) (fun av σ k hS => by obtain ⟨w, rfl, hS⟩ := S_is_sp hS; exact Nat.le_of_ble_eq_true rfl) (fun C hT hC av σ k hS => ?_)
  replace hS := S_is_sp hS
  obtain ⟨w, rfl, hS⟩ := hS
  subst hT
  refine px_runG (h - 1) ck_11 [] [] 24 hC px_nosp (by omega) px_nocut (fun G Jf hG hJf => ?_)
  simp only [↓hG, ↓hJf, ↓px_go, ↓px_vc, ↓px_ex, ↓px_jp, ↓px_gi, ↓px_gl, ↓px_gr, ↓px_s1, ↓px_s2, ↓px_nl, ↓px_i1, ↓px_l1, ↓px_r1, ↓px_q1, ↓px_i2, ↓px_l2, ↓px_il, ↓px_d0, ↓px_d1, ↓px_d2, ↓px_pop, px_sz, ↓px_sp, ↓px_obj, ↓px_arr, ↓px_rd, ↓px_pt, ↓px_rok, ↓px_rv, ↓px_fill, ↓px_sl, ↓px_li, ↓px_l0, ↓px_lw, ↓px_lc, px_wi, px_wl, px_wr, px_up_at, lc_lt, lc_ge, lc_gt, lc_le, lc_eq, ↓reduceIte, Nat.reduceEqDiff, Nat.reduceLeDiff, Nat.reduceAdd, Nat.reduceSub, reduceCtorEq, List.length_cons, List.length_nil, Option.toList_some, Option.toList_none, List.cons_append, List.nil_append, true_and, and_true, false_and, and_false, true_or, or_true, false_or, or_false, and_self, or_self, not_false_eq_true, not_true_eq_false, false_implies, forall_const, true_implies, ↓bk_11, ↓pn_i11, mt_0 ht]
  try simp (disch := omega) only [true_and, and_true, mb_bit, mb_house, bcI_eq, px_up_row, ni_divL, ni_subL, nI_add, pk_mul, nI_leI, nI_ltI, nI_eq, vp_in_eq, nI_clamp, fa_and, fa_or, ni_bit1, ni_1s, nI_l, mb_eq0, mb_ne0, mb_eq1]
  refine ⟨fun h1 => ?_, fun h1 => ⟨fun h2 => ?_, fun h2 => ?_⟩⟩
  · rw [decide_eq_false h1] at hS; exact hS
  · rw [decide_eq_false h2, Bool.and_false] at hS; exact hS
  · rw [decide_eq_true h1, decide_eq_true h2] at hS; exact hS
def S_see : px_S := fun av σ k => match av with
  | [.inr (.inr (some 0)), .inl w] => mt_R σ.2.2 ∧ (¬ σ.1 0 8 ≤ w → vp_in w 900) ∧ k (some (.inl (if σ.1 0 8 ≤ w then -1 else σ.1 3 w.toNatClampNeg))) σ
  | _ => False
theorem S_see_sp {av : List px_V} {σ : px_M} {k : Option px_V → px_M → Prop} (h : S_see av σ k) : ∃ w, av = [.inr (.inr (some 0)), .inl w] ∧ (mt_R σ.2.2 ∧ (¬ σ.1 0 8 ≤ w → vp_in w 900) ∧ k (some (.inl (if σ.1 0 8 ≤ w then -1 else σ.1 3 w.toNatClampNeg))) σ) := by
  unfold S_see at h
  split at h
  · exact ⟨_, rfl, h⟩
  · exact h.elim
set_option maxHeartbeats 4000000 in
set_option maxRecDepth 100000 in
theorem m_see {tab : px_T} (ht : mt_ok tab) {h : Nat} (hh : 1 ≤ h) : px_Ok tab pn_i5 h S_see := by
  refine px_mth ht.1 (by decide +kernel) (fun av σ k hS => by obtain ⟨w, rfl, hR, h1, hS⟩ := S_see_sp hS; exact Nat.le_of_ble_eq_true rfl) (fun C hT hC av σ k hS => ?_)
  replace hS := S_see_sp hS
  obtain ⟨w, rfl, hR, h1, hS⟩ := hS
  subst hT
  refine px_runG (h - 1) ck_5 [] [] 24 hC px_nosp (by omega) px_nocut (fun G Jf hG hJf => ?_)
  simp only [↓hG, ↓hJf, ↓px_go, ↓px_vc, ↓px_ex, ↓px_jp, ↓px_gi, ↓px_gl, ↓px_gr, ↓px_s1, ↓px_s2, ↓px_nl, ↓px_i1, ↓px_l1, ↓px_r1, ↓px_q1, ↓px_i2, ↓px_l2, ↓px_il, ↓px_d0, ↓px_d1, ↓px_d2, ↓px_pop, px_sz, ↓px_sp, ↓px_obj, ↓px_arr, ↓px_rd, ↓px_pt, ↓px_rok, ↓px_rv, ↓px_fill, ↓px_sl, ↓px_li, ↓px_l0, ↓px_lw, ↓px_lc, px_wi, px_wl, px_wr, px_up_at, lc_lt, lc_ge, lc_gt, lc_le, lc_eq, ↓reduceIte, Nat.reduceEqDiff, Nat.reduceLeDiff, Nat.reduceAdd, Nat.reduceSub, reduceCtorEq, List.length_cons, List.length_nil, Option.toList_some, Option.toList_none, List.cons_append, List.nil_append, true_and, and_true, false_and, and_false, true_or, or_true, false_or, or_false, and_self, or_self, not_false_eq_true, not_true_eq_false, false_implies, forall_const, true_implies, ↓bk_5, ↓pn_i5, mt_0 ht, mt_3 ht, mr_3 hR]
  try simp (disch := omega) only [true_and, and_true, mb_bit, mb_house, bcI_eq, px_up_row, ni_divL, ni_subL, nI_add, pk_mul, nI_leI, nI_ltI, nI_eq, vp_in_eq, nI_clamp, fa_and, fa_or, ni_bit1, ni_1s, nI_l, mb_eq0, mb_ne0, mb_eq1]
  refine ⟨fun q => ?_, fun q => ⟨h1 q, ?_⟩⟩
  · rw [if_pos q] at hS; exact hS
  · rw [if_neg q] at hS; exact hS
def S_fails : px_S := fun av σ k => match av with
  | [.inr (.inr (some 0)), .inl w] => (¬ σ.1 0 11 = nI 0 → k none σ) ∧ (σ.1 0 11 = nI 0 → k none (px_wi (px_wi σ 0 11 (if σ.1 0 9 = nI 18 then nI 1 else w)) 0 12 (σ.1 0 6)))
  | _ => False
theorem S_fails_sp {av : List px_V} {σ : px_M} {k : Option px_V → px_M → Prop} (h : S_fails av σ k) : ∃ w, av = [.inr (.inr (some 0)), .inl w] ∧ ((¬ σ.1 0 11 = nI 0 → k none σ) ∧ (σ.1 0 11 = nI 0 → k none (px_wi (px_wi σ 0 11 (if σ.1 0 9 = nI 18 then nI 1 else w)) 0 12 (σ.1 0 6)))) := by
  unfold S_fails at h
  split at h
  · exact ⟨_, rfl, h⟩
  · exact h.elim
set_option maxHeartbeats 4000000 in
set_option maxRecDepth 100000 in
theorem m_fails {tab : px_T} (ht : mt_ok tab) {h : Nat} (hh : 1 ≤ h) : px_Ok tab pn_i10 h S_fails := by
  refine px_mth ht.1 (by decide +kernel) (fun av σ k hS => by obtain ⟨w, rfl, hS1, hS2⟩ := S_fails_sp hS; exact Nat.le_of_ble_eq_true rfl) (fun C hT hC av σ k hS => ?_)
  replace hS := S_fails_sp hS
  obtain ⟨w, rfl, hS1, hS2⟩ := hS
  subst hT
  refine px_runG (h - 1) ck_10 [] [] 24 hC px_nosp (by omega) px_nocut (fun G Jf hG hJf => ?_)
  simp only [↓hG, ↓hJf, ↓px_go, ↓px_vc, ↓px_ex, ↓px_jp, ↓px_gi, ↓px_gl, ↓px_gr, ↓px_s1, ↓px_s2, ↓px_nl, ↓px_i1, ↓px_l1, ↓px_r1, ↓px_q1, ↓px_i2, ↓px_l2, ↓px_il, ↓px_d0, ↓px_d1, ↓px_d2, ↓px_pop, px_sz, ↓px_sp, ↓px_obj, ↓px_arr, ↓px_rd, ↓px_pt, ↓px_rok, ↓px_rv, ↓px_fill, ↓px_sl, ↓px_li, ↓px_l0, ↓px_lw, ↓px_lc, px_wi, px_wl, px_wr, px_up_at, lc_lt, lc_ge, lc_gt, lc_le, lc_eq, ↓reduceIte, Nat.reduceEqDiff, Nat.reduceLeDiff, Nat.reduceAdd, Nat.reduceSub, reduceCtorEq, List.length_cons, List.length_nil, Option.toList_some, Option.toList_none, List.cons_append, List.nil_append, true_and, and_true, false_and, and_false, true_or, or_true, false_or, or_false, and_self, or_self, not_false_eq_true, not_true_eq_false, false_implies, forall_const, true_implies, ↓bk_10, ↓pn_i10, mt_0 ht]
  try simp (disch := omega) only [true_and, and_true, mb_bit, mb_house, bcI_eq, px_up_row, ni_divL, ni_subL, nI_add, pk_mul, nI_leI, nI_ltI, nI_eq, vp_in_eq, nI_clamp, fa_and, fa_or, ni_bit1, ni_1s, nI_l, mb_eq0, mb_ne0, mb_eq1]
  refine ⟨fun q => ⟨fun q2 => ?_, fun q2 => ?_⟩, fun q => hS1 q⟩
  · have hz := hS2 q; rw [if_neg q2] at hz; exact hz
  · have hz := hS2 q; rw [if_pos q2] at hz; exact hz
def S_fault : px_S := fun av σ k => match av with
  | [.inr (.inr (some 0)), .inl w] => k (some (.inl (if w = nI 0 then σ.1 0 13 else if w = nI 1 then σ.1 0 14 else -1))) (px_wi σ 0 0 (nI 0))
  | _ => False
theorem S_fault_sp {av : List px_V} {σ : px_M} {k : Option px_V → px_M → Prop} (h : S_fault av σ k) : ∃ w, av = [.inr (.inr (some 0)), .inl w] ∧ (k (some (.inl (if w = nI 0 then σ.1 0 13 else if w = nI 1 then σ.1 0 14 else -1))) (px_wi σ 0 0 (nI 0))) := by
  unfold S_fault at h
  split at h
  · exact ⟨_, rfl, h⟩
  · exact h.elim
set_option maxHeartbeats 4000000 in
set_option maxRecDepth 100000 in
theorem m_fault {tab : px_T} (ht : mt_ok tab) {h : Nat} (hh : 1 ≤ h) : px_Ok tab pn_i29 h S_fault := by
  refine px_mth ht.1 (by decide +kernel) (fun av σ k hS => by obtain ⟨w, rfl, hS⟩ := S_fault_sp hS; exact Nat.le_of_ble_eq_true rfl) (fun C hT hC av σ k hS => ?_)
  replace hS := S_fault_sp hS
  obtain ⟨w, rfl, hS⟩ := hS
  subst hT
  refine px_runG (h - 1) ck_29 [] [] 24 hC px_nosp (by omega) px_nocut (fun G Jf hG hJf => ?_)
  simp only [↓hG, ↓hJf, ↓px_go, ↓px_vc, ↓px_ex, ↓px_jp, ↓px_gi, ↓px_gl, ↓px_gr, ↓px_s1, ↓px_s2, ↓px_nl, ↓px_i1, ↓px_l1, ↓px_r1, ↓px_q1, ↓px_i2, ↓px_l2, ↓px_il, ↓px_d0, ↓px_d1, ↓px_d2, ↓px_pop, px_sz, ↓px_sp, ↓px_obj, ↓px_arr, ↓px_rd, ↓px_pt, ↓px_rok, ↓px_rv, ↓px_fill, ↓px_sl, ↓px_li, ↓px_l0, ↓px_lw, ↓px_lc, px_wi, px_wl, px_wr, px_up_at, lc_lt, lc_ge, lc_gt, lc_le, lc_eq, ↓reduceIte, Nat.reduceEqDiff, Nat.reduceLeDiff, Nat.reduceAdd, Nat.reduceSub, reduceCtorEq, List.length_cons, List.length_nil, Option.toList_some, Option.toList_none, List.cons_append, List.nil_append, true_and, and_true, false_and, and_false, true_or, or_true, false_or, or_false, and_self, or_self, not_false_eq_true, not_true_eq_false, false_implies, forall_const, true_implies, ↓bk_29, ↓pn_i29, mt_0 ht]
  try simp (disch := omega) only [true_and, and_true, mb_bit, mb_house, bcI_eq, px_up_row, ni_divL, ni_subL, nI_add, pk_mul, nI_leI, nI_ltI, nI_eq, vp_in_eq, nI_clamp, fa_and, fa_or, ni_bit1, ni_1s, nI_l, mb_eq0, mb_ne0, mb_eq1]
  refine ⟨fun q => ⟨fun q2 => ?_, fun q2 => ?_⟩, fun q => ?_⟩
  · rw [if_neg q, if_neg q2] at hS; exact hS
  · rw [if_neg q, if_pos q2] at hS; exact hS
  · rw [if_pos q] at hS; exact hS
def S_without : px_S := fun av σ k => match av with
  | [.inl s, .inl w] => k (some (.inl ((s &&& ((nI 1 <<< (w &&& 31)) - nI 1)) ||| ((s >>> ((w + nI 1) &&& 31)) <<< (w &&& 31))))) σ
  | _ => False
theorem S_without_sp {av : List px_V} {σ : px_M} {k : Option px_V → px_M → Prop} (h : S_without av σ k) : ∃ s w, av = [.inl s, .inl w] ∧ (k (some (.inl ((s &&& ((nI 1 <<< (w &&& 31)) - nI 1)) ||| ((s >>> ((w + nI 1) &&& 31)) <<< (w &&& 31))))) σ) := by
  unfold S_without at h
  split at h
  · exact ⟨_, _, rfl, h⟩
  · exact h.elim
set_option maxHeartbeats 4000000 in
set_option maxRecDepth 100000 in
theorem m_without {tab : px_T} (ht : mt_ok tab) {h : Nat} (hh : 1 ≤ h) : px_Ok tab pn_i67 h S_without := by
  refine px_mth ht.1 (by decide +kernel) (fun av σ k hS => by obtain ⟨s, w, rfl, hS⟩ := S_without_sp hS; exact Nat.le_of_ble_eq_true rfl) (fun C hT hC av σ k hS => ?_)
  replace hS := S_without_sp hS
  obtain ⟨s, w, rfl, hS⟩ := hS
  subst hT
  refine px_runG (h - 1) ck_67 [] [] 24 hC px_nosp (by omega) px_nocut (fun G Jf hG hJf => ?_)
  simp only [↓hG, ↓hJf, ↓px_go, ↓px_vc, ↓px_ex, ↓px_jp, ↓px_gi, ↓px_gl, ↓px_gr, ↓px_s1, ↓px_s2, ↓px_nl, ↓px_i1, ↓px_l1, ↓px_r1, ↓px_q1, ↓px_i2, ↓px_l2, ↓px_il, ↓px_d0, ↓px_d1, ↓px_d2, ↓px_pop, px_sz, ↓px_sp, ↓px_obj, ↓px_arr, ↓px_rd, ↓px_pt, ↓px_rok, ↓px_rv, ↓px_fill, ↓px_sl, ↓px_li, ↓px_l0, ↓px_lw, ↓px_lc, px_wi, px_wl, px_wr, px_up_at, lc_lt, lc_ge, lc_gt, lc_le, lc_eq, ↓reduceIte, Nat.reduceEqDiff, Nat.reduceLeDiff, Nat.reduceAdd, Nat.reduceSub, reduceCtorEq, List.length_cons, List.length_nil, Option.toList_some, Option.toList_none, List.cons_append, List.nil_append, true_and, and_true, false_and, and_false, true_or, or_true, false_or, or_false, and_self, or_self, not_false_eq_true, not_true_eq_false, false_implies, forall_const, true_implies, ↓bk_67, ↓pn_i67]
  exact hS
def S_draw : px_S := fun av σ k => match av with
  | [.inr (.inr (some 0)), .inl w] => ¬ w = nI 0 ∧ ∀ y, y = (Int32.toUInt32 (nI 1103515245 * σ.1 0 22 + nI 12345) >>> ((nI 16).toUInt32 &&& Int32.toUInt32 31)).toInt32 → k (some (.inl (y - y / w * w))) (px_wi σ 0 22 (nI 1103515245 * σ.1 0 22 + nI 12345))
  | _ => False
theorem S_draw_sp {av : List px_V} {σ : px_M} {k : Option px_V → px_M → Prop} (h : S_draw av σ k) : ∃ w, av = [.inr (.inr (some 0)), .inl w] ∧ (¬ w = nI 0 ∧ ∀ y, y = (Int32.toUInt32 (nI 1103515245 * σ.1 0 22 + nI 12345) >>> ((nI 16).toUInt32 &&& Int32.toUInt32 31)).toInt32 → k (some (.inl (y - y / w * w))) (px_wi σ 0 22 (nI 1103515245 * σ.1 0 22 + nI 12345))) := by
  unfold S_draw at h
  split at h
  · exact ⟨_, rfl, h⟩
  · exact h.elim
set_option maxHeartbeats 4000000 in
set_option maxRecDepth 100000 in
theorem m_draw {tab : px_T} (ht : mt_ok tab) {h : Nat} (hh : 1 ≤ h) : px_Ok tab pn_i78 h S_draw := by
  refine px_mth ht.1 (by decide +kernel) (fun av σ k hS => by obtain ⟨w, rfl, h1, hS⟩ := S_draw_sp hS; exact Nat.le_of_ble_eq_true rfl) (fun C hT hC av σ k hS => ?_)
  replace hS := S_draw_sp hS
  obtain ⟨w, rfl, h1, hS⟩ := hS
  subst hT
  refine px_runG (h - 1) ck_78 [] [] 24 hC px_nosp (by omega) px_nocut (fun G Jf hG hJf => ?_)
  simp only [↓hG, ↓hJf, ↓px_go, ↓px_vc, ↓px_ex, ↓px_jp, ↓px_gi, ↓px_gl, ↓px_gr, ↓px_s1, ↓px_s2, ↓px_nl, ↓px_i1, ↓px_l1, ↓px_r1, ↓px_q1, ↓px_i2, ↓px_l2, ↓px_il, ↓px_d0, ↓px_d1, ↓px_d2, ↓px_pop, px_sz, ↓px_sp, ↓px_obj, ↓px_arr, ↓px_rd, ↓px_pt, ↓px_rok, ↓px_rv, ↓px_fill, ↓px_sl, ↓px_li, ↓px_l0, ↓px_lw, ↓px_lc, px_wi, px_wl, px_wr, px_up_at, lc_lt, lc_ge, lc_gt, lc_le, lc_eq, ↓reduceIte, Nat.reduceEqDiff, Nat.reduceLeDiff, Nat.reduceAdd, Nat.reduceSub, reduceCtorEq, List.length_cons, List.length_nil, Option.toList_some, Option.toList_none, List.cons_append, List.nil_append, true_and, and_true, false_and, and_false, true_or, or_true, false_or, or_false, and_self, or_self, not_false_eq_true, not_true_eq_false, false_implies, forall_const, true_implies, ↓bk_78, ↓pn_i78, mt_0 ht]
  exact ⟨h1, hS _ rfl⟩
def S_bitAt : px_S := fun av σ k => match av with
  | [.inl a, .inl b] => k (some (.inl (if b ≤ a then a * (a - nI 1) / nI 2 + b else b * (b - nI 1) / nI 2 + a))) σ
  | _ => False
theorem S_bitAt_sp {av : List px_V} {σ : px_M} {k : Option px_V → px_M → Prop} (h : S_bitAt av σ k) : ∃ a b, av = [.inl a, .inl b] ∧ (k (some (.inl (if b ≤ a then a * (a - nI 1) / nI 2 + b else b * (b - nI 1) / nI 2 + a))) σ) := by
  unfold S_bitAt at h
  split at h
  · exact ⟨_, _, rfl, h⟩
  · exact h.elim
set_option maxHeartbeats 4000000 in
set_option maxRecDepth 100000 in
theorem m_bitAt {tab : px_T} (ht : mt_ok tab) {h : Nat} (hh : 1 ≤ h) : px_Ok tab pn_i102 h S_bitAt := by
  refine px_mth ht.1 (by decide +kernel) (fun av σ k hS => by obtain ⟨a, b, rfl, hS⟩ := S_bitAt_sp hS; exact Nat.le_of_ble_eq_true rfl) (fun C hT hC av σ k hS => ?_)
  replace hS := S_bitAt_sp hS
  obtain ⟨a, b, rfl, hS⟩ := hS
  subst hT
  have h20 : ¬ nI 2 = nI 0 := by decide
  refine px_runG (h - 1) ck_102 [] [] 24 hC px_nosp (by omega) px_nocut (fun G Jf hG hJf => ?_)
  simp only [↓hG, ↓hJf, ↓px_go, ↓px_vc, ↓px_ex, ↓px_jp, ↓px_gi, ↓px_gl, ↓px_gr, ↓px_s1, ↓px_s2, ↓px_nl, ↓px_i1, ↓px_l1, ↓px_r1, ↓px_q1, ↓px_i2, ↓px_l2, ↓px_il, ↓px_d0, ↓px_d1, ↓px_d2, ↓px_pop, px_sz, ↓px_sp, ↓px_obj, ↓px_arr, ↓px_rd, ↓px_pt, ↓px_rok, ↓px_rv, ↓px_fill, ↓px_sl, ↓px_li, ↓px_l0, ↓px_lw, ↓px_lc, px_wi, px_wl, px_wr, px_up_at, lc_lt, lc_ge, lc_gt, lc_le, lc_eq, ↓reduceIte, Nat.reduceEqDiff, Nat.reduceLeDiff, Nat.reduceAdd, Nat.reduceSub, reduceCtorEq, List.length_cons, List.length_nil, Option.toList_some, Option.toList_none, List.cons_append, List.nil_append, true_and, and_true, false_and, and_false, true_or, or_true, false_or, or_false, and_self, or_self, not_false_eq_true, not_true_eq_false, false_implies, forall_const, true_implies, ↓bk_102, ↓pn_i102, h20]
  refine ⟨fun q => ?_, fun q => ?_⟩
  · rw [if_pos q] at hS; exact hS
  · rw [if_neg q] at hS; exact hS
def S_cut : px_S := fun av σ k => match av with
  | [.inr (.inl v), .inl w] => k (some (.inr (.inl (if w = nI 0 then v.toInt32.toInt8.toInt32.toInt64 else if w = nI 1 then v.toInt32.toInt16.toInt32.toInt64 else if w = nI 2 then v.toInt32.toInt64 else v)))) σ
  | _ => False
theorem S_cut_sp {av : List px_V} {σ : px_M} {k : Option px_V → px_M → Prop} (h : S_cut av σ k) : ∃ v w, av = [.inr (.inl v), .inl w] ∧ (k (some (.inr (.inl (if w = nI 0 then v.toInt32.toInt8.toInt32.toInt64 else if w = nI 1 then v.toInt32.toInt16.toInt32.toInt64 else if w = nI 2 then v.toInt32.toInt64 else v)))) σ) := by
  unfold S_cut at h
  split at h
  · exact ⟨_, _, rfl, h⟩
  · exact h.elim
set_option maxHeartbeats 4000000 in
set_option maxRecDepth 100000 in
theorem m_cut {tab : px_T} (ht : mt_ok tab) {h : Nat} (hh : 1 ≤ h) : px_Ok tab pn_i127 h S_cut := by
  refine px_mth ht.1 (by decide +kernel) (fun av σ k hS => by obtain ⟨v, w, rfl, hS⟩ := S_cut_sp hS; exact Nat.le_of_ble_eq_true rfl) (fun C hT hC av σ k hS => ?_)
  replace hS := S_cut_sp hS
  obtain ⟨v, w, rfl, hS⟩ := hS
  subst hT
  refine px_runG (h - 1) ck_127 [] [] 24 hC px_nosp (by omega) px_nocut (fun G Jf hG hJf => ?_)
  simp only [↓hG, ↓hJf, ↓px_go, ↓px_vc, ↓px_ex, ↓px_jp, ↓px_gi, ↓px_gl, ↓px_gr, ↓px_s1, ↓px_s2, ↓px_nl, ↓px_i1, ↓px_l1, ↓px_r1, ↓px_q1, ↓px_i2, ↓px_l2, ↓px_il, ↓px_d0, ↓px_d1, ↓px_d2, ↓px_pop, px_sz, ↓px_sp, ↓px_obj, ↓px_arr, ↓px_rd, ↓px_pt, ↓px_rok, ↓px_rv, ↓px_fill, ↓px_sl, ↓px_li, ↓px_l0, ↓px_lw, ↓px_lc, px_wi, px_wl, px_wr, px_up_at, lc_lt, lc_ge, lc_gt, lc_le, lc_eq, ↓reduceIte, Nat.reduceEqDiff, Nat.reduceLeDiff, Nat.reduceAdd, Nat.reduceSub, reduceCtorEq, List.length_cons, List.length_nil, Option.toList_some, Option.toList_none, List.cons_append, List.nil_append, true_and, and_true, false_and, and_false, true_or, or_true, false_or, or_false, and_self, or_self, not_false_eq_true, not_true_eq_false, false_implies, forall_const, true_implies, ↓bk_127, ↓pn_i127]
  refine ⟨fun q => ⟨fun q2 => ⟨fun q3 => ?_, fun q3 => ?_⟩, fun q2 => ?_⟩, fun q => ?_⟩
  · rw [if_neg q, if_neg q2, if_neg q3] at hS; exact hS
  · rw [if_neg q, if_neg q2, if_pos q3] at hS; exact hS
  · rw [if_neg q, if_pos q2] at hS; exact hS
  · rw [if_pos q] at hS; exact hS
/-- threeMany, fours -/
def S_threeMany : px_S := fun av σ k => av = [.inr (.inr (some 0))] ∧ mt_R σ.2.2 ∧ tok (σ.1 1) ∧ k (some (.inl (nI (sm (fun a => sm (t3f (σ.1 1) a) (tN (σ.1 1)) / 2) (tN (σ.1 1)) / 3)))) σ
def I_threeMany (σ : px_M) : Nat → px_Ls → px_M → Prop := fun j ls τ => ls = [some (.inr (.inr (some 0))), some (.inl (nI (sm (fun a => sm (t3f (σ.1 1) a) (tN (σ.1 1)) / 2) j))), some (.inl (nI j))] ∧ τ = σ
theorem t3_le {r : Nat → Int32} (h : tN r ≤ 11) (a : Nat) : sm (t3f r a) (tN r) / 2 ≤ 60 := by
  have := sm_le (t3f_le r a) (tN r)
  omega
set_option maxHeartbeats 4000000 in
set_option maxRecDepth 100000 in
theorem m_threeMany {tab : px_T} (ht : mt_ok tab) {h : Nat} (hh : 4 ≤ h) : px_Ok tab pn_i73 h S_threeMany := by
  refine px_mth ht.1 (by decide +kernel) (fun av σ k hS => by obtain ⟨rfl, hR, htk, hS⟩ := hS; exact Nat.le_of_ble_eq_true rfl) (fun C hT hC av σ k hS => ?_)
  obtain ⟨rfl, hR, htk, hS⟩ := hS
  subst hT
  have lp := px_loop (C := C) (k := k) (pc := 4) (I_threeMany σ) (tN (σ.1 1)) (fun j ls σ' hj hI hn2 => by
    obtain ⟨rfl, rfl⟩ := hI
    obtain ⟨hn, h1, hnb, hlt⟩ := id htk
    have hs := sm_le (t3_le hn) j
    refine px_runG (h - 1) ck_73 [(33, S_threesOf)] [(4, px_li (I_threeMany σ') j (tN (σ'.1 1)))] 24 hC (px_sp1 (m_threesOf ht (by omega)) px_nosp) (by omega) (px_cut1 (px_li_ok hn2) px_nocut) (fun G Jf hG hJf => ?_)
    simp only [↓hG, ↓hJf, ↓px_go, ↓px_vc, ↓px_ex, ↓px_jp, ↓px_gi, ↓px_gl, ↓px_gr, ↓px_s1, ↓px_s2, ↓px_nl, ↓px_i1, ↓px_l1, ↓px_r1, ↓px_q1, ↓px_i2, ↓px_l2, ↓px_il, ↓px_d0, ↓px_d1, ↓px_d2, ↓px_pop, px_sz, ↓px_sp, ↓px_obj, ↓px_arr, ↓px_rd, ↓px_pt, ↓px_rok, ↓px_rv, ↓px_fill, ↓px_sl, ↓px_li, ↓px_l0, ↓px_lw, ↓px_lc, px_wi, px_wl, px_wr, px_up_at, lc_lt, lc_ge, lc_gt, lc_le, lc_eq, ↓reduceIte, Nat.reduceEqDiff, Nat.reduceLeDiff, Nat.reduceAdd, Nat.reduceSub, reduceCtorEq, List.length_cons, List.length_nil, Option.toList_some, Option.toList_none, List.cons_append, List.nil_append, true_and, and_true, false_and, and_false, true_or, or_true, false_or, or_false, and_self, or_self, not_false_eq_true, not_true_eq_false, false_implies, forall_const, true_implies, ↓bk_73, ↓pn_i73, ↓S_threesOf, I_threeMany, mt_0 ht, mt_1 ht, mr_1 hR]
    try simp (disch := omega) only [true_and, and_true, mb_bit, mb_house, bcI_eq, px_up_row, ni_divL, ni_subL, nI_add, pk_mul, nI_leI, nI_ltI, nI_eq, vp_in_eq, nI_clamp, fa_and, fa_or, ni_bit1, ni_1s, nI_l, mb_eq0, mb_ne0, mb_eq1, h1]
    refine ⟨by omega, fun q => ⟨by omega, ?_⟩, fun q => ⟨hR, htk, by omega, by omega, rfl⟩⟩
    have : j = tN (σ'.1 1) := by omega
    rw [this]
    exact hS)
  refine px_runG (h - 1) ck_73 [] [(4, px_l0 (I_threeMany σ))] 24 hC px_nosp (by omega) (px_cut1 (px_l0_ok lp) px_nocut) (fun G Jf hG hJf => ?_)
  simp only [↓hG, ↓hJf, ↓px_go, ↓px_vc, ↓px_ex, ↓px_jp, ↓px_gi, ↓px_gl, ↓px_gr, ↓px_s1, ↓px_s2, ↓px_nl, ↓px_i1, ↓px_l1, ↓px_r1, ↓px_q1, ↓px_i2, ↓px_l2, ↓px_il, ↓px_d0, ↓px_d1, ↓px_d2, ↓px_pop, px_sz, ↓px_sp, ↓px_obj, ↓px_arr, ↓px_rd, ↓px_pt, ↓px_rok, ↓px_rv, ↓px_fill, ↓px_sl, ↓px_li, ↓px_l0, ↓px_lw, ↓px_lc, px_wi, px_wl, px_wr, px_up_at, lc_lt, lc_ge, lc_gt, lc_le, lc_eq, ↓reduceIte, Nat.reduceEqDiff, Nat.reduceLeDiff, Nat.reduceAdd, Nat.reduceSub, reduceCtorEq, List.length_cons, List.length_nil, Option.toList_some, Option.toList_none, List.cons_append, List.nil_append, true_and, and_true, false_and, and_false, true_or, or_true, false_or, or_false, and_self, or_self, not_false_eq_true, not_true_eq_false, false_implies, forall_const, true_implies, ↓bk_73, ↓pn_i73, I_threeMany]
  try simp (disch := omega) only [true_and, and_true, mb_bit, mb_house, bcI_eq, px_up_row, ni_divL, ni_subL, nI_add, pk_mul, nI_leI, nI_ltI, nI_eq, vp_in_eq, nI_clamp, fa_and, fa_or, ni_bit1, ni_1s, nI_l, mb_eq0, mb_ne0, mb_eq1]
  rfl
def S_fours : px_S := fun av σ k => av = [.inr (.inr (some 0))] ∧ mt_R σ.2.2 ∧ tok (σ.1 1) ∧ k (some (.inl (nI (sm (fun a => sm (t4f (σ.1 1) a) (tN (σ.1 1))) (tN (σ.1 1)) / 4)))) (px_wi σ 0 0 (nI 0))
def I_fours (r : Nat → Int32) (τ0 : px_M) : Nat → px_Ls → px_M → Prop := fun j ls τ => ls = [some (.inr (.inr (some 0))), some (.inl (nI (sm (fun a => sm (t4f r a) (tN r)) j))), some (.inl (nI j))] ∧ τ = τ0
theorem t4_le {r : Nat → Int32} (h : tN r ≤ 11) (a : Nat) : sm (t4f r a) (tN r) ≤ 605 := by
  have := sm_le (t4f_le r a) (tN r)
  omega
set_option maxHeartbeats 4000000 in
set_option maxRecDepth 100000 in
theorem m_fours {tab : px_T} (ht : mt_ok tab) {h : Nat} (hh : 4 ≤ h) : px_Ok tab pn_i81 h S_fours := by
  refine px_mth ht.1 (by decide +kernel) (fun av σ k hS => by obtain ⟨rfl, hR, htk, hS⟩ := hS; exact Nat.le_of_ble_eq_true rfl) (fun C hT hC av σ k hS => ?_)
  obtain ⟨rfl, hR, htk, hS⟩ := hS
  subst hT
  have lp := px_loop (C := C) (k := k) (pc := 9) (I_fours (σ.1 1) (px_wi σ 0 0 (nI 0))) (tN (σ.1 1)) (fun j ls σ' hj hI hn2 => by
    obtain ⟨rfl, rfl⟩ := hI
    obtain ⟨hn, h1, hnb, hlt⟩ := id htk
    have hs := sm_le (t4_le hn) j
    refine px_runG (h - 1) ck_81 [(34, S_foursOf)] [(9, px_li (I_fours (σ.1 1) (px_wi σ 0 0 (nI 0))) j (tN (σ.1 1)))] 24 hC (px_sp1 (m_foursOf ht (by omega)) px_nosp) (by omega) (px_cut1 (px_li_ok hn2) px_nocut) (fun G Jf hG hJf => ?_)
    simp only [↓hG, ↓hJf, ↓px_go, ↓px_vc, ↓px_ex, ↓px_jp, ↓px_gi, ↓px_gl, ↓px_gr, ↓px_s1, ↓px_s2, ↓px_nl, ↓px_i1, ↓px_l1, ↓px_r1, ↓px_q1, ↓px_i2, ↓px_l2, ↓px_il, ↓px_d0, ↓px_d1, ↓px_d2, ↓px_pop, px_sz, ↓px_sp, ↓px_obj, ↓px_arr, ↓px_rd, ↓px_pt, ↓px_rok, ↓px_rv, ↓px_fill, ↓px_sl, ↓px_li, ↓px_l0, ↓px_lw, ↓px_lc, px_wi, px_wl, px_wr, px_up_at, lc_lt, lc_ge, lc_gt, lc_le, lc_eq, ↓reduceIte, Nat.reduceEqDiff, Nat.reduceLeDiff, Nat.reduceAdd, Nat.reduceSub, reduceCtorEq, List.length_cons, List.length_nil, Option.toList_some, Option.toList_none, List.cons_append, List.nil_append, true_and, and_true, false_and, and_false, true_or, or_true, false_or, or_false, and_self, or_self, not_false_eq_true, not_true_eq_false, false_implies, forall_const, true_implies, ↓bk_81, ↓pn_i81, ↓S_foursOf, I_fours, mt_0 ht, mt_1 ht, mr_1 hR]
    try simp (disch := omega) only [true_and, and_true, mb_bit, mb_house, bcI_eq, px_up_row, ni_divL, ni_subL, nI_add, pk_mul, nI_leI, nI_ltI, nI_eq, vp_in_eq, nI_clamp, fa_and, fa_or, ni_bit1, ni_1s, nI_l, mb_eq0, mb_ne0, mb_eq1, h1]
    refine ⟨by omega, fun q => ⟨by omega, ?_⟩, fun q => ⟨hR, htk, by omega, by omega, rfl⟩⟩
    have : j = tN (σ.1 1) := by omega
    rw [this]
    exact hS)
  refine px_runG (h - 1) ck_81 [] [(9, px_l0 (I_fours (σ.1 1) (px_wi σ 0 0 (nI 0))))] 24 hC px_nosp (by omega) (px_cut1 (px_l0_ok lp) px_nocut) (fun G Jf hG hJf => ?_)
  simp only [↓hG, ↓hJf, ↓px_go, ↓px_vc, ↓px_ex, ↓px_jp, ↓px_gi, ↓px_gl, ↓px_gr, ↓px_s1, ↓px_s2, ↓px_nl, ↓px_i1, ↓px_l1, ↓px_r1, ↓px_q1, ↓px_i2, ↓px_l2, ↓px_il, ↓px_d0, ↓px_d1, ↓px_d2, ↓px_pop, px_sz, ↓px_sp, ↓px_obj, ↓px_arr, ↓px_rd, ↓px_pt, ↓px_rok, ↓px_rv, ↓px_fill, ↓px_sl, ↓px_li, ↓px_l0, ↓px_lw, ↓px_lc, px_wi, px_wl, px_wr, px_up_at, lc_lt, lc_ge, lc_gt, lc_le, lc_eq, ↓reduceIte, Nat.reduceEqDiff, Nat.reduceLeDiff, Nat.reduceAdd, Nat.reduceSub, reduceCtorEq, List.length_cons, List.length_nil, Option.toList_some, Option.toList_none, List.cons_append, List.nil_append, true_and, and_true, false_and, and_false, true_or, or_true, false_or, or_false, and_self, or_self, not_false_eq_true, not_true_eq_false, false_implies, forall_const, true_implies, ↓bk_81, ↓pn_i81, I_fours, mt_0 ht]
  try simp (disch := omega) only [true_and, and_true, mb_bit, mb_house, bcI_eq, px_up_row, ni_divL, ni_subL, nI_add, pk_mul, nI_leI, nI_ltI, nI_eq, vp_in_eq, nI_clamp, fa_and, fa_or, ni_bit1, ni_1s, nI_l, mb_eq0, mb_ne0, mb_eq1]
  rfl
/-- feasts, isFull, full -/
theorem sm_b {p : Nat → Bool} : ∀ n, sm (fun s => (p s).toNat) n ≤ n := by
  intro n
  have := sm_le (c := 1) (f := fun s => (p s).toNat) (fun j => Bool.toNat_le _) n
  omega
theorem pw_le {n : Nat} (h : n ≤ 11) : 2 ^ n ≤ 2048 := Nat.pow_le_pow_right (by omega) h
def S_feasts : px_S := fun av σ k => av = [.inr (.inr (some 0))] ∧ mt_R σ.2.2 ∧ tok (σ.1 1) ∧ k (some (.inl (nI (sm (fun s => (fst (σ.1 1) s (tN (σ.1 1))).toNat) (2 ^ tN (σ.1 1)))))) (px_wi σ 0 0 (nI 0))
def I_feasts (r : Nat → Int32) (τ0 : px_M) : Nat → px_Ls → px_M → Prop := fun j ls τ => ls = [some (.inr (.inr (some 0))), some (.inl (nI (sm (fun s => (fst r s (tN r)).toNat) j))), some (.inl (nI j))] ∧ τ = τ0
set_option maxHeartbeats 4000000 in
set_option maxRecDepth 100000 in
theorem m_feasts {tab : px_T} (ht : mt_ok tab) {h : Nat} (hh : 3 ≤ h) : px_Ok tab pn_i87 h S_feasts := by
  refine px_mth ht.1 (by decide +kernel) (fun av σ k hS => by obtain ⟨rfl, hR, htk, hS⟩ := hS; exact Nat.le_of_ble_eq_true rfl) (fun C hT hC av σ k hS => ?_)
  obtain ⟨rfl, hR, htk, hS⟩ := hS
  subst hT
  have lp := px_loop (C := C) (k := k) (pc := 9) (I_feasts (σ.1 1) (px_wi σ 0 0 (nI 0))) (2 ^ tN (σ.1 1)) (fun j ls σ' hj hI hn2 => by
    obtain ⟨rfl, rfl⟩ := hI
    obtain ⟨hn, h1, hnb, hlt⟩ := id htk
    have hp := pw_le hn
    have hs := sm_b (p := fun s => fst (σ.1 1) s (tN (σ.1 1))) j
    refine px_runG (h - 1) ck_87 [(40, S_isFeast)] [(9, px_li (I_feasts (σ.1 1) (px_wi σ 0 0 (nI 0))) j (2 ^ tN (σ.1 1)))] 24 hC (px_sp1 (m_isFeast ht (by omega)) px_nosp) (by omega) (px_cut1 (px_li_ok hn2) px_nocut) (fun G Jf hG hJf => ?_)
    simp only [↓hG, ↓hJf, ↓px_go, ↓px_vc, ↓px_ex, ↓px_jp, ↓px_gi, ↓px_gl, ↓px_gr, ↓px_s1, ↓px_s2, ↓px_nl, ↓px_i1, ↓px_l1, ↓px_r1, ↓px_q1, ↓px_i2, ↓px_l2, ↓px_il, ↓px_d0, ↓px_d1, ↓px_d2, ↓px_pop, px_sz, ↓px_sp, ↓px_obj, ↓px_arr, ↓px_rd, ↓px_pt, ↓px_rok, ↓px_rv, ↓px_fill, ↓px_sl, ↓px_li, ↓px_l0, ↓px_lw, ↓px_lc, px_wi, px_wl, px_wr, px_up_at, lc_lt, lc_ge, lc_gt, lc_le, lc_eq, ↓reduceIte, Nat.reduceEqDiff, Nat.reduceLeDiff, Nat.reduceAdd, Nat.reduceSub, reduceCtorEq, List.length_cons, List.length_nil, Option.toList_some, Option.toList_none, List.cons_append, List.nil_append, true_and, and_true, false_and, and_false, true_or, or_true, false_or, or_false, and_self, or_self, not_false_eq_true, not_true_eq_false, false_implies, forall_const, true_implies, ↓bk_87, ↓pn_i87, ↓S_isFeast, I_feasts, mt_0 ht, mt_1 ht, mr_1 hR]
    try simp (disch := omega) only [true_and, and_true, mb_bit, mb_house, bcI_eq, px_up_row, ni_divL, ni_subL, nI_add, pk_mul, nI_leI, nI_ltI, nI_eq, vp_in_eq, nI_clamp, fa_and, fa_or, ni_bit1, ni_1s, nI_l, mb_eq0, mb_ne0, mb_eq1, h1]
    refine ⟨by omega, fun q => ?_, fun q => ⟨hR, htk, by omega, fun hb => ⟨by omega, ?_⟩, fun hb => ⟨by omega, ?_⟩⟩⟩
    · have : j = 2 ^ tN (σ.1 1) := by omega
      rw [this]
      exact hS
    · simp [sm, hb]
    · have hb' : fst (σ.1 1) j (tN (σ.1 1)) = true := by simpa using hb
      simp [sm, hb'])
  refine px_runG (h - 1) ck_87 [] [(9, px_l0 (I_feasts (σ.1 1) (px_wi σ 0 0 (nI 0))))] 24 hC px_nosp (by omega) (px_cut1 (px_l0_ok lp) px_nocut) (fun G Jf hG hJf => ?_)
  simp only [↓hG, ↓hJf, ↓px_go, ↓px_vc, ↓px_ex, ↓px_jp, ↓px_gi, ↓px_gl, ↓px_gr, ↓px_s1, ↓px_s2, ↓px_nl, ↓px_i1, ↓px_l1, ↓px_r1, ↓px_q1, ↓px_i2, ↓px_l2, ↓px_il, ↓px_d0, ↓px_d1, ↓px_d2, ↓px_pop, px_sz, ↓px_sp, ↓px_obj, ↓px_arr, ↓px_rd, ↓px_pt, ↓px_rok, ↓px_rv, ↓px_fill, ↓px_sl, ↓px_li, ↓px_l0, ↓px_lw, ↓px_lc, px_wi, px_wl, px_wr, px_up_at, lc_lt, lc_ge, lc_gt, lc_le, lc_eq, ↓reduceIte, Nat.reduceEqDiff, Nat.reduceLeDiff, Nat.reduceAdd, Nat.reduceSub, reduceCtorEq, List.length_cons, List.length_nil, Option.toList_some, Option.toList_none, List.cons_append, List.nil_append, true_and, and_true, false_and, and_false, true_or, or_true, false_or, or_false, and_self, or_self, not_false_eq_true, not_true_eq_false, false_implies, forall_const, true_implies, ↓bk_87, ↓pn_i87, I_feasts, mt_0 ht]
  try simp (disch := omega) only [true_and, and_true, mb_bit, mb_house, bcI_eq, px_up_row, ni_divL, ni_subL, nI_add, pk_mul, nI_leI, nI_ltI, nI_eq, vp_in_eq, nI_clamp, fa_and, fa_or, ni_bit1, ni_1s, nI_l, mb_eq0, mb_ne0, mb_eq1]
  rfl
def ful (r : Nat → Int32) (s : Nat) : Nat → Bool
  | 0 => true
  | j + 1 => ful r s j && (s.testBit j || decide (tB r j &&& s ≠ 0))
theorem ful_false {r : Nat → Int32} {s : Nat} : ∀ {n j : Nat}, j < n → s.testBit j = false → tB r j &&& s = 0 → ful r s n = false := by
  intro n
  induction n with
  | zero => intro j h; omega
  | succ n ih =>
    intro j h h1 h2
    by_cases hj : j = n
    · subst hj; simp [ful, h1, h2]
    · simp [ful, ih (j := j) (by omega) h1 h2]
def S_isFull : px_S := fun av σ k => match av with
  | [.inr (.inr (some 0)), .inl w] => mt_R σ.2.2 ∧ tok (σ.1 1) ∧ w = nI w.toNatClampNeg ∧ w.toNatClampNeg < 2048 ∧ k (some (.inl (mb (fst (σ.1 1) w.toNatClampNeg (tN (σ.1 1)) && ful (σ.1 1) w.toNatClampNeg (tN (σ.1 1)))))) σ
  | _ => False
theorem S_isFull_sp {av : List px_V} {σ : px_M} {k : Option px_V → px_M → Prop} (h : S_isFull av σ k) : ∃ w, av = [.inr (.inr (some 0)), .inl w] ∧ (mt_R σ.2.2 ∧ tok (σ.1 1) ∧ w = nI w.toNatClampNeg ∧ w.toNatClampNeg < 2048 ∧ k (some (.inl (mb (fst (σ.1 1) w.toNatClampNeg (tN (σ.1 1)) && ful (σ.1 1) w.toNatClampNeg (tN (σ.1 1)))))) σ) := by
  unfold S_isFull at h
  split at h
  · exact ⟨_, rfl, h⟩
  · exact h.elim
def I_isFull (s : Nat) (σ : px_M) : Nat → px_Ls → px_M → Prop := fun j ls τ => ls = [some (.inr (.inr (some 0))), some (.inl (nI s)), some (.inl (nI j))] ∧ τ = σ ∧ ful (σ.1 1) s j = true
set_option maxHeartbeats 4000000 in
set_option maxRecDepth 100000 in
theorem m_isFull {tab : px_T} (ht : mt_ok tab) {h : Nat} (hh : 3 ≤ h) : px_Ok tab pn_i88 h S_isFull := by
  refine px_mth ht.1 (by decide +kernel) (fun av σ k hS => by obtain ⟨w, rfl, hR, htk, hw, hs, hS⟩ := S_isFull_sp hS; exact Nat.le_of_ble_eq_true rfl) (fun C hT hC av σ k hS => ?_)
  replace hS := S_isFull_sp hS
  obtain ⟨w, rfl, hR, htk, hw, hs, hS⟩ := hS
  subst hT
  obtain ⟨s, hs0⟩ : ∃ s, w.toNatClampNeg = s := ⟨_, rfl⟩
  rw [hs0] at hw hs hS
  subst hw
  clear hs0
  obtain ⟨hn, h1, hnb, hlt⟩ := id htk
  have lp := fun (hfe : fst (σ.1 1) s (tN (σ.1 1)) = true) => px_loop (C := C) (k := k) (pc := 12) (I_isFull s σ) (tN (σ.1 1)) (fun j ls σ' hj hI hn2 => by
    obtain ⟨rfl, rfl, hf⟩ := hI
    rw [hfe, Bool.true_and] at hS
    refine px_runG (h - 1) ck_88 [(31, S_near), (14, S_isIn)] [(12, px_li (I_isFull s σ') j (tN (σ'.1 1)))] 24 hC (px_sp1 (m_near ht (by omega)) (px_sp1 (m_isIn ht (by omega)) px_nosp)) (by omega) (px_cut1 (px_li_ok hn2) px_nocut) (fun G Jf hG hJf => ?_)
    simp only [↓hG, ↓hJf, ↓px_go, ↓px_vc, ↓px_ex, ↓px_jp, ↓px_gi, ↓px_gl, ↓px_gr, ↓px_s1, ↓px_s2, ↓px_nl, ↓px_i1, ↓px_l1, ↓px_r1, ↓px_q1, ↓px_i2, ↓px_l2, ↓px_il, ↓px_d0, ↓px_d1, ↓px_d2, ↓px_pop, px_sz, ↓px_sp, ↓px_obj, ↓px_arr, ↓px_rd, ↓px_pt, ↓px_rok, ↓px_rv, ↓px_fill, ↓px_sl, ↓px_li, ↓px_l0, ↓px_lw, ↓px_lc, px_wi, px_wl, px_wr, px_up_at, lc_lt, lc_ge, lc_gt, lc_le, lc_eq, ↓reduceIte, Nat.reduceEqDiff, Nat.reduceLeDiff, Nat.reduceAdd, Nat.reduceSub, reduceCtorEq, List.length_cons, List.length_nil, Option.toList_some, Option.toList_none, List.cons_append, List.nil_append, true_and, and_true, false_and, and_false, true_or, or_true, false_or, or_false, and_self, or_self, not_false_eq_true, not_true_eq_false, false_implies, forall_const, true_implies, ↓bk_88, ↓pn_i88, ↓S_near, ↓S_isIn, I_isFull, mt_0 ht, mt_1 ht, mr_1 hR]
    try simp (disch := omega) only [true_and, and_true, mb_bit, mb_house, bcI_eq, px_up_row, ni_divL, ni_subL, nI_add, pk_mul, nI_leI, nI_ltI, nI_eq, vp_in_eq, nI_clamp, fa_and, fa_or, ni_bit1, ni_1s, nI_l, mb_eq0, mb_ne0, mb_eq1, h1, hnb]
    refine ⟨by omega, fun q => ?_, fun q => ⟨fun hb => ?_, fun hb => ⟨hR, by omega, fun hz => ?_, fun hz => ?_⟩⟩⟩
    · have : j = tN (σ'.1 1) := by omega
      rw [← this, hf] at hS
      exact hS
    · have hb' : s.testBit j = true := by simpa using hb
      exact ⟨by omega, by simp [ful, hf, hb']⟩
    · have hj11 : j < 11 := by omega
      have hl := hlt j hj11
      have h31 : tB (σ'.1 1) j &&& s < 2048 := and_lt hl
      have hz2 : ¬ tB (σ'.1 1) j &&& s = 0 := by
        intro q2
        apply hz
        rw [hnb j hj11, fa_and, q2]
      exact ⟨by omega, by simp [ful, hf, hz2]⟩
    · have hj11 : j < 11 := by omega
      have hl := hlt j hj11
      have h31 : tB (σ'.1 1) j &&& s < 2048 := and_lt hl
      rw [hnb j hj11, fa_and] at hz
      have hz2 : tB (σ'.1 1) j &&& s = 0 := (nI_eq (by omega) (by omega)).mp hz
      have hb' : s.testBit j = false := by simpa using hb
      rw [ful_false (j := j) (by omega) hb' hz2] at hS
      exact hS)
  by_cases hfe : fst (σ.1 1) s (tN (σ.1 1)) = true
  ·
    refine px_runG (h - 1) ck_88 [(40, S_isFeast)] [(12, px_l0 (I_isFull s σ))] 24 hC (px_sp1 (m_isFeast ht (by omega)) px_nosp) (by omega) (px_cut1 (px_l0_ok (lp hfe)) px_nocut) (fun G Jf hG hJf => ?_)
    simp only [↓hG, ↓hJf, ↓px_go, ↓px_vc, ↓px_ex, ↓px_jp, ↓px_gi, ↓px_gl, ↓px_gr, ↓px_s1, ↓px_s2, ↓px_nl, ↓px_i1, ↓px_l1, ↓px_r1, ↓px_q1, ↓px_i2, ↓px_l2, ↓px_il, ↓px_d0, ↓px_d1, ↓px_d2, ↓px_pop, px_sz, ↓px_sp, ↓px_obj, ↓px_arr, ↓px_rd, ↓px_pt, ↓px_rok, ↓px_rv, ↓px_fill, ↓px_sl, ↓px_li, ↓px_l0, ↓px_lw, ↓px_lc, px_wi, px_wl, px_wr, px_up_at, lc_lt, lc_ge, lc_gt, lc_le, lc_eq, ↓reduceIte, Nat.reduceEqDiff, Nat.reduceLeDiff, Nat.reduceAdd, Nat.reduceSub, reduceCtorEq, List.length_cons, List.length_nil, Option.toList_some, Option.toList_none, List.cons_append, List.nil_append, true_and, and_true, false_and, and_false, true_or, or_true, false_or, or_false, and_self, or_self, not_false_eq_true, not_true_eq_false, false_implies, forall_const, true_implies, ↓bk_88, ↓pn_i88, ↓S_isFeast, I_isFull, mt_0 ht]
    try simp (disch := omega) only [true_and, and_true, mb_bit, mb_house, bcI_eq, px_up_row, ni_divL, ni_subL, nI_add, pk_mul, nI_leI, nI_ltI, nI_eq, vp_in_eq, nI_clamp, fa_and, fa_or, ni_bit1, ni_1s, nI_l, mb_eq0, mb_ne0, mb_eq1]
    exact ⟨hR, htk, by omega, fun q => rfl, fun q => absurd hfe (by simp [q])⟩
  · have hfe' : fst (σ.1 1) s (tN (σ.1 1)) = false := by simpa using hfe
    rw [hfe', Bool.false_and] at hS
    refine px_runG (h - 1) ck_88 [(40, S_isFeast)] [(12, (fun _ _ _ => False))] 24 hC (px_sp1 (m_isFeast ht (by omega)) px_nosp) (by omega) (px_cut1 (fun _ _ _ hz => hz.elim) px_nocut) (fun G Jf hG hJf => ?_)
    simp only [↓hG, ↓hJf, ↓px_go, ↓px_vc, ↓px_ex, ↓px_jp, ↓px_gi, ↓px_gl, ↓px_gr, ↓px_s1, ↓px_s2, ↓px_nl, ↓px_i1, ↓px_l1, ↓px_r1, ↓px_q1, ↓px_i2, ↓px_l2, ↓px_il, ↓px_d0, ↓px_d1, ↓px_d2, ↓px_pop, px_sz, ↓px_sp, ↓px_obj, ↓px_arr, ↓px_rd, ↓px_pt, ↓px_rok, ↓px_rv, ↓px_fill, ↓px_sl, ↓px_li, ↓px_l0, ↓px_lw, ↓px_lc, px_wi, px_wl, px_wr, px_up_at, lc_lt, lc_ge, lc_gt, lc_le, lc_eq, ↓reduceIte, Nat.reduceEqDiff, Nat.reduceLeDiff, Nat.reduceAdd, Nat.reduceSub, reduceCtorEq, List.length_cons, List.length_nil, Option.toList_some, Option.toList_none, List.cons_append, List.nil_append, true_and, and_true, false_and, and_false, true_or, or_true, false_or, or_false, and_self, or_self, not_false_eq_true, not_true_eq_false, false_implies, forall_const, true_implies, ↓bk_88, ↓pn_i88, ↓S_isFeast, mt_0 ht]
    try simp (disch := omega) only [true_and, and_true, mb_bit, mb_house, bcI_eq, px_up_row, ni_divL, ni_subL, nI_add, pk_mul, nI_leI, nI_ltI, nI_eq, vp_in_eq, nI_clamp, fa_and, fa_or, ni_bit1, ni_1s, nI_l, mb_eq0, mb_ne0, mb_eq1]
    exact ⟨hR, htk, by omega, fun q => absurd hfe' (by simp [q]), fun q => hS⟩
def S_full : px_S := fun av σ k => av = [.inr (.inr (some 0))] ∧ mt_R σ.2.2 ∧ tok (σ.1 1) ∧ k (some (.inl (nI (sm (fun s => (fst (σ.1 1) s (tN (σ.1 1)) && ful (σ.1 1) s (tN (σ.1 1))).toNat) (2 ^ tN (σ.1 1)))))) (px_wi σ 0 0 (nI 0))
def I_full (r : Nat → Int32) (τ0 : px_M) : Nat → px_Ls → px_M → Prop := fun j ls τ => ls = [some (.inr (.inr (some 0))), some (.inl (nI (sm (fun s => (fst r s (tN r) && ful r s (tN r)).toNat) j))), some (.inl (nI j))] ∧ τ = τ0
set_option maxHeartbeats 4000000 in
set_option maxRecDepth 100000 in
theorem m_full {tab : px_T} (ht : mt_ok tab) {h : Nat} (hh : 4 ≤ h) : px_Ok tab pn_i89 h S_full := by
  refine px_mth ht.1 (by decide +kernel) (fun av σ k hS => by obtain ⟨rfl, hR, htk, hS⟩ := hS; exact Nat.le_of_ble_eq_true rfl) (fun C hT hC av σ k hS => ?_)
  obtain ⟨rfl, hR, htk, hS⟩ := hS
  subst hT
  have lp := px_loop (C := C) (k := k) (pc := 9) (I_full (σ.1 1) (px_wi σ 0 0 (nI 0))) (2 ^ tN (σ.1 1)) (fun j ls σ' hj hI hn2 => by
    obtain ⟨rfl, rfl⟩ := hI
    obtain ⟨hn, h1, hnb, hlt⟩ := id htk
    have hp := pw_le hn
    have hs := sm_b (p := fun s => fst (σ.1 1) s (tN (σ.1 1)) && ful (σ.1 1) s (tN (σ.1 1))) j
    refine px_runG (h - 1) ck_89 [(88, S_isFull)] [(9, px_li (I_full (σ.1 1) (px_wi σ 0 0 (nI 0))) j (2 ^ tN (σ.1 1)))] 24 hC (px_sp1 (m_isFull ht (by omega)) px_nosp) (by omega) (px_cut1 (px_li_ok hn2) px_nocut) (fun G Jf hG hJf => ?_)
    simp only [↓hG, ↓hJf, ↓px_go, ↓px_vc, ↓px_ex, ↓px_jp, ↓px_gi, ↓px_gl, ↓px_gr, ↓px_s1, ↓px_s2, ↓px_nl, ↓px_i1, ↓px_l1, ↓px_r1, ↓px_q1, ↓px_i2, ↓px_l2, ↓px_il, ↓px_d0, ↓px_d1, ↓px_d2, ↓px_pop, px_sz, ↓px_sp, ↓px_obj, ↓px_arr, ↓px_rd, ↓px_pt, ↓px_rok, ↓px_rv, ↓px_fill, ↓px_sl, ↓px_li, ↓px_l0, ↓px_lw, ↓px_lc, px_wi, px_wl, px_wr, px_up_at, lc_lt, lc_ge, lc_gt, lc_le, lc_eq, ↓reduceIte, Nat.reduceEqDiff, Nat.reduceLeDiff, Nat.reduceAdd, Nat.reduceSub, reduceCtorEq, List.length_cons, List.length_nil, Option.toList_some, Option.toList_none, List.cons_append, List.nil_append, true_and, and_true, false_and, and_false, true_or, or_true, false_or, or_false, and_self, or_self, not_false_eq_true, not_true_eq_false, false_implies, forall_const, true_implies, ↓bk_89, ↓pn_i89, ↓S_isFull, I_full, mt_0 ht, mt_1 ht, mr_1 hR]
    try simp (disch := omega) only [true_and, and_true, mb_bit, mb_house, bcI_eq, px_up_row, ni_divL, ni_subL, nI_add, pk_mul, nI_leI, nI_ltI, nI_eq, vp_in_eq, nI_clamp, fa_and, fa_or, ni_bit1, ni_1s, nI_l, mb_eq0, mb_ne0, mb_eq1, h1]
    refine ⟨by omega, fun q => ?_, fun q => ⟨hR, htk, by omega, fun hb => ⟨by omega, ?_⟩, fun hb => ⟨by omega, ?_⟩⟩⟩
    · have : j = 2 ^ tN (σ.1 1) := by omega
      rw [this]
      exact hS
    · simp [sm, hb]
    · have hb' : (fst (σ.1 1) j (tN (σ.1 1)) && ful (σ.1 1) j (tN (σ.1 1))) = true := by simpa using hb
      simp [sm, hb'])
  refine px_runG (h - 1) ck_89 [] [(9, px_l0 (I_full (σ.1 1) (px_wi σ 0 0 (nI 0))))] 24 hC px_nosp (by omega) (px_cut1 (px_l0_ok lp) px_nocut) (fun G Jf hG hJf => ?_)
  simp only [↓hG, ↓hJf, ↓px_go, ↓px_vc, ↓px_ex, ↓px_jp, ↓px_gi, ↓px_gl, ↓px_gr, ↓px_s1, ↓px_s2, ↓px_nl, ↓px_i1, ↓px_l1, ↓px_r1, ↓px_q1, ↓px_i2, ↓px_l2, ↓px_il, ↓px_d0, ↓px_d1, ↓px_d2, ↓px_pop, px_sz, ↓px_sp, ↓px_obj, ↓px_arr, ↓px_rd, ↓px_pt, ↓px_rok, ↓px_rv, ↓px_fill, ↓px_sl, ↓px_li, ↓px_l0, ↓px_lw, ↓px_lc, px_wi, px_wl, px_wr, px_up_at, lc_lt, lc_ge, lc_gt, lc_le, lc_eq, ↓reduceIte, Nat.reduceEqDiff, Nat.reduceLeDiff, Nat.reduceAdd, Nat.reduceSub, reduceCtorEq, List.length_cons, List.length_nil, Option.toList_some, Option.toList_none, List.cons_append, List.nil_append, true_and, and_true, false_and, and_false, true_or, or_true, false_or, or_false, and_self, or_self, not_false_eq_true, not_true_eq_false, false_implies, forall_const, true_implies, ↓bk_89, ↓pn_i89, I_full, mt_0 ht]
  try simp (disch := omega) only [true_and, and_true, mb_bit, mb_house, bcI_eq, px_up_row, ni_divL, ni_subL, nI_add, pk_mul, nI_leI, nI_ltI, nI_eq, vp_in_eq, nI_clamp, fa_and, fa_or, ni_bit1, ni_1s, nI_l, mb_eq0, mb_ne0, mb_eq1]
  rfl
