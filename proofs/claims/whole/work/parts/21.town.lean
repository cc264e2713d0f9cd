/-! the model: what is asked of a town -/
theorem ni_bb {b : Nat} (h : b ≤ 11) : nI b * (nI b - nI 1) = nI (b * (b - 1)) := by
  rcases Nat.eq_zero_or_pos b with rfl | h0
  · decide +kernel
  · rw [pk_sub h0, pk_mul]
theorem bb_le {b : Nat} (h : b ≤ 11) : b * (b - 1) / 2 ≤ 55 := by
  have h1 : b * (b - 1) ≤ 11 * 10 := Nat.mul_le_mul h (by omega)
  omega
/-! fours -/
def t4f (r : Nat → Int32) (a j : Nat) : Nat := if j = a then 0 else bc 11 (tB r a &&& tB r j) * (bc 11 (tB r a &&& tB r j) - 1) / 2
theorem t4f_le (r : Nat → Int32) (a j : Nat) : t4f r a j ≤ 55 := by
  unfold t4f
  split
  · omega
  · exact bb_le (bc_le 11 _)
/-! fours 2 -/
def S_foursOf : px_S := fun av σ k => match av with
  | [.inr (.inr (some 0)), .inl w] => mt_R σ.2.2 ∧ tok (σ.1 1) ∧ w = nI w.toNatClampNeg ∧ w.toNatClampNeg < 11 ∧ k (some (.inl (nI (sm (t4f (σ.1 1) w.toNatClampNeg) (tN (σ.1 1)))))) σ
  | _ => False
theorem S_foursOf_sp {av : List px_V} {σ : px_M} {k : Option px_V → px_M → Prop} (h : S_foursOf av σ k) : ∃ a, av = [.inr (.inr (some 0)), .inl (nI a)] ∧ mt_R σ.2.2 ∧ tok (σ.1 1) ∧ a < 11 ∧ k (some (.inl (nI (sm (t4f (σ.1 1) a) (tN (σ.1 1)))))) σ := by
  unfold S_foursOf at h
  split at h
  · obtain ⟨h1, h2, h3, h4, h5⟩ := h
    exact ⟨_, by rw [← h3], h1, h2, h4, h5⟩
  · exact h.elim
/-! fours 3 -/
theorem t4_step {r : Nat → Int32} {a j : Nat} (ha : tB r a < 2048) (hja : ¬ j = a) : nI (sm (t4f r a) j) + bcI 11 (nI (tB r a) &&& nI (tB r j)) * (bcI 11 (nI (tB r a) &&& nI (tB r j)) - nI 1) / nI 2 = nI (sm (t4f r a) (j + 1)) := by
  have h31 : tB r a &&& tB r j < 2048 := and_lt ha
  rw [fa_and, bcI_eq (by omega) (by omega)]
  have hb := bc_le 11 (tB r a &&& tB r j)
  have e : sm (t4f r a) (j + 1) = sm (t4f r a) j + bc 11 (tB r a &&& tB r j) * (bc 11 (tB r a &&& tB r j) - 1) / 2 := by simp [sm, t4f, hja]
  rw [e]
  clear e h31
  generalize bc 11 (tB r a &&& tB r j) = b at hb
  have h1 : b * (b - 1) ≤ 11 * 10 := Nat.mul_le_mul hb (by omega)
  rw [ni_bb hb, ni_divL (Nat.lt_of_le_of_lt h1 (by omega)) (by omega) (by omega), nI_add]
/-! fours 4 -/
theorem t4_stay {r : Nat → Int32} {a j : Nat} (hja : j = a) : sm (t4f r a) (j + 1) = sm (t4f r a) j := by simp [sm, t4f, hja]
def I_foursOf (a : Nat) (σ : px_M) : Nat → px_Ls → px_M → Prop := fun j ls τ => ∃ z, ls = [some (.inr (.inr (some 0))), some (.inl (nI a)), some (.inl (nI (sm (t4f (σ.1 1) a) j))), some (.inl (nI j)), z] ∧ τ = σ
set_option maxHeartbeats 4000000 in
set_option maxRecDepth 100000 in
theorem m_foursOf {tab : px_T} (ht : mt_ok tab) {h : Nat} (hh : 3 ≤ h) : px_Ok tab pn_i34 h S_foursOf := by
  refine px_mth ht.1 (by decide +kernel) (fun av σ k hS => by obtain ⟨a, rfl, hR, ⟨hn, h1, hnb, hlt⟩, ha, hS⟩ := S_foursOf_sp hS; exact Nat.le_of_ble_eq_true rfl) (fun C hT hC av σ k hS => ?_)
  replace hS := S_foursOf_sp hS
  obtain ⟨a, rfl, hR, ⟨hn, h1, hnb, hlt⟩, ha, hS⟩ := hS
  subst hT
  have lp := px_loop (C := C) (k := k) (pc := 4) (I_foursOf a σ) (tN (σ.1 1)) (fun j ls σ' hj hI hn2 => by
    obtain ⟨z, rfl, rfl⟩ := hI
    have hla := hlt a ha
    refine px_runG (h - 1) ck_34 [(31, S_near), (32, S_bitsOf)] [(4, px_li (I_foursOf a σ') j (tN (σ'.1 1)))] 24 hC (px_sp1 (m_near ht (by omega)) (px_sp1 (m_bitsOf ht (by omega)) px_nosp)) (by omega) (px_cut1 (px_li_ok hn2) px_nocut) (fun G Jf hG hJf => ?_)
    simp only [↓hG, ↓hJf, ↓px_go, ↓px_vc, ↓px_ex, ↓px_jp, ↓px_gi, ↓px_gl, ↓px_gr, ↓px_s1, ↓px_s2, ↓px_nl, ↓px_i1, ↓px_l1, ↓px_r1, ↓px_q1, ↓px_i2, ↓px_l2, ↓px_il, ↓px_d0, ↓px_d1, ↓px_d2, ↓px_pop, px_sz, ↓px_sp, ↓px_obj, ↓px_arr, ↓px_rd, ↓px_pt, ↓px_rok, ↓px_rv, ↓px_fill, ↓px_sl, ↓px_li, ↓px_l0, ↓px_lw, ↓px_lc, px_wi, px_wl, px_wr, px_up_at, lc_lt, lc_ge, lc_gt, lc_le, lc_eq, ↓reduceIte, Nat.reduceEqDiff, Nat.reduceLeDiff, Nat.reduceAdd, Nat.reduceSub, reduceCtorEq, List.length_cons, List.length_nil, Option.toList_some, Option.toList_none, List.cons_append, List.nil_append, true_and, and_true, false_and, and_false, true_or, or_true, false_or, or_false, and_self, or_self, not_false_eq_true, not_true_eq_false, false_implies, forall_const, true_implies, ↓bk_34, ↓pn_i34, ↓S_near, ↓S_bitsOf, I_foursOf, mt_0 ht, mt_1 ht, mr_1 hR]
    try simp (disch := omega) only [true_and, and_true, mb_bit, mb_house, bcI_eq, px_up_row, ni_divL, ni_subL, nI_add, pk_mul, nI_leI, nI_ltI, nI_eq, vp_in_eq, nI_clamp, fa_and, fa_or, ni_bit1, ni_1s, nI_l, mb_eq0, mb_ne0, mb_eq1, h1, hnb]
    refine ⟨by omega, fun q => ?_, fun q => ⟨fun hja => ?_, fun hja => ?_⟩⟩
    · have : j = tN (σ'.1 1) := by omega
      rw [this]
      exact hS
    · refine ⟨hR, by omega, hR, by omega, by omega, by omega, ?_⟩
      rw [hnb j (by omega), t4_step hla hja]
      exact ⟨_, rfl⟩
    · rw [t4_stay hja]
      exact ⟨by omega, _, rfl⟩)
  refine px_runG (h - 1) ck_34 [] [(4, px_l0 (I_foursOf a σ))] 24 hC px_nosp (by omega) (px_cut1 (px_l0_ok lp) px_nocut) (fun G Jf hG hJf => ?_)
  simp only [↓hG, ↓hJf, ↓px_go, ↓px_vc, ↓px_ex, ↓px_jp, ↓px_gi, ↓px_gl, ↓px_gr, ↓px_s1, ↓px_s2, ↓px_nl, ↓px_i1, ↓px_l1, ↓px_r1, ↓px_q1, ↓px_i2, ↓px_l2, ↓px_il, ↓px_d0, ↓px_d1, ↓px_d2, ↓px_pop, px_sz, ↓px_sp, ↓px_obj, ↓px_arr, ↓px_rd, ↓px_pt, ↓px_rok, ↓px_rv, ↓px_fill, ↓px_sl, ↓px_li, ↓px_l0, ↓px_lw, ↓px_lc, px_wi, px_wl, px_wr, px_up_at, lc_lt, lc_ge, lc_gt, lc_le, lc_eq, ↓reduceIte, Nat.reduceEqDiff, Nat.reduceLeDiff, Nat.reduceAdd, Nat.reduceSub, reduceCtorEq, List.length_cons, List.length_nil, Option.toList_some, Option.toList_none, List.cons_append, List.nil_append, true_and, and_true, false_and, and_false, true_or, or_true, false_or, or_false, and_self, or_self, not_false_eq_true, not_true_eq_false, false_implies, forall_const, true_implies, ↓bk_34, ↓pn_i34, I_foursOf]
  try simp (disch := omega) only [true_and, and_true, mb_bit, mb_house, bcI_eq, px_up_row, ni_divL, ni_subL, nI_add, pk_mul, nI_leI, nI_ltI, nI_eq, vp_in_eq, nI_clamp, fa_and, fa_or, ni_bit1, ni_1s, nI_l, mb_eq0, mb_ne0, mb_eq1]
  exact ⟨_, rfl⟩
/-! the model: doors -/
/-- doorMany -/
def S_doorMany : px_S := fun av σ k => av = [.inr (.inr (some 0))] ∧ mt_R σ.2.2 ∧ tok (σ.1 1) ∧ k (some (.inl (nI (sm (fun j => bc 11 (tB (σ.1 1) j)) (tN (σ.1 1)) / 2)))) σ
def I_doorMany (σ : px_M) : Nat → px_Ls → px_M → Prop := fun j ls τ => ls = [some (.inr (.inr (some 0))), some (.inl (nI (sm (fun j => bc 11 (tB (σ.1 1) j)) j))), some (.inl (nI j))] ∧ τ = σ
set_option maxHeartbeats 4000000 in
set_option maxRecDepth 100000 in
theorem m_doorMany {tab : px_T} (ht : mt_ok tab) {h : Nat} (hh : 3 ≤ h) : px_Ok tab pn_i45 h S_doorMany := by
  refine px_mth ht.1 (by decide +kernel) (fun av σ k hS => by obtain ⟨rfl, hR, ⟨hn, h1, hnb, hlt⟩, hS⟩ := hS; exact Nat.le_of_ble_eq_true rfl) (fun C hT hC av σ k hS => ?_)
  obtain ⟨rfl, hR, ⟨hn, h1, hnb, hlt⟩, hS⟩ := hS
  subst hT
  have lp := px_loop (C := C) (k := k) (pc := 4) (I_doorMany σ) (tN (σ.1 1)) (fun j ls σ' hj hI hn2 => by
    obtain ⟨rfl, rfl⟩ := hI
    have hs := sm_le (fun j => bc_le 11 (tB (σ'.1 1) j)) j
    refine px_runG (h - 1) ck_45 [(31, S_near), (32, S_bitsOf)] [(4, px_li (I_doorMany σ') j (tN (σ'.1 1)))] 24 hC (px_sp1 (m_near ht (by omega)) (px_sp1 (m_bitsOf ht (by omega)) px_nosp)) (by omega) (px_cut1 (px_li_ok hn2) px_nocut) (fun G Jf hG hJf => ?_)
    simp only [↓hG, ↓hJf, ↓px_go, ↓px_vc, ↓px_ex, ↓px_jp, ↓px_gi, ↓px_gl, ↓px_gr, ↓px_s1, ↓px_s2, ↓px_nl, ↓px_i1, ↓px_l1, ↓px_r1, ↓px_q1, ↓px_i2, ↓px_l2, ↓px_il, ↓px_d0, ↓px_d1, ↓px_d2, ↓px_pop, px_sz, ↓px_sp, ↓px_obj, ↓px_arr, ↓px_rd, ↓px_pt, ↓px_rok, ↓px_rv, ↓px_fill, ↓px_sl, ↓px_li, ↓px_l0, ↓px_lw, ↓px_lc, px_wi, px_wl, px_wr, px_up_at, lc_lt, lc_ge, lc_gt, lc_le, lc_eq, ↓reduceIte, Nat.reduceEqDiff, Nat.reduceLeDiff, Nat.reduceAdd, Nat.reduceSub, reduceCtorEq, List.length_cons, List.length_nil, Option.toList_some, Option.toList_none, List.cons_append, List.nil_append, true_and, and_true, false_and, and_false, true_or, or_true, false_or, or_false, and_self, or_self, not_false_eq_true, not_true_eq_false, false_implies, forall_const, true_implies, ↓bk_45, ↓pn_i45, ↓S_near, ↓S_bitsOf, I_doorMany, mt_0 ht, mt_1 ht, mr_1 hR]
    try simp (disch := omega) only [true_and, and_true, mb_bit, mb_house, bcI_eq, px_up_row, ni_divL, ni_subL, nI_add, pk_mul, nI_leI, nI_ltI, nI_eq, vp_in_eq, nI_clamp, fa_and, fa_or, ni_bit1, ni_1s, nI_l, mb_eq0, mb_ne0, mb_eq1, h1, hnb]
    refine ⟨by omega, fun q => ⟨by omega, ?_⟩, fun q => ⟨hR, by omega, by omega, ?_⟩⟩
    · have : j = tN (σ'.1 1) := by omega
      rw [this]
      exact hS
    · have hj11 : j < 11 := by omega
      have hl := hlt j hj11
      rw [hnb j hj11, bcI_eq (by omega) (by omega), nI_add]
      rfl)
  refine px_runG (h - 1) ck_45 [] [(4, px_l0 (I_doorMany σ))] 24 hC px_nosp (by omega) (px_cut1 (px_l0_ok lp) px_nocut) (fun G Jf hG hJf => ?_)
  simp only [↓hG, ↓hJf, ↓px_go, ↓px_vc, ↓px_ex, ↓px_jp, ↓px_gi, ↓px_gl, ↓px_gr, ↓px_s1, ↓px_s2, ↓px_nl, ↓px_i1, ↓px_l1, ↓px_r1, ↓px_q1, ↓px_i2, ↓px_l2, ↓px_il, ↓px_d0, ↓px_d1, ↓px_d2, ↓px_pop, px_sz, ↓px_sp, ↓px_obj, ↓px_arr, ↓px_rd, ↓px_pt, ↓px_rok, ↓px_rv, ↓px_fill, ↓px_sl, ↓px_li, ↓px_l0, ↓px_lw, ↓px_lc, px_wi, px_wl, px_wr, px_up_at, lc_lt, lc_ge, lc_gt, lc_le, lc_eq, ↓reduceIte, Nat.reduceEqDiff, Nat.reduceLeDiff, Nat.reduceAdd, Nat.reduceSub, reduceCtorEq, List.length_cons, List.length_nil, Option.toList_some, Option.toList_none, List.cons_append, List.nil_append, true_and, and_true, false_and, and_false, true_or, or_true, false_or, or_false, and_self, or_self, not_false_eq_true, not_true_eq_false, false_implies, forall_const, true_implies, ↓bk_45, ↓pn_i45, I_doorMany]
  try simp (disch := omega) only [true_and, and_true, mb_bit, mb_house, bcI_eq, px_up_row, ni_divL, ni_subL, nI_add, pk_mul, nI_leI, nI_ltI, nI_eq, vp_in_eq, nI_clamp, fa_and, fa_or, ni_bit1, ni_1s, nI_l, mb_eq0, mb_ne0, mb_eq1]
  rfl
/-! the model: feasts -/
/-- isFeast: no two of a set are neighbours -/
def fst (r : Nat → Int32) (s : Nat) : Nat → Bool
  | 0 => true
  | j + 1 => fst r s j && !(s.testBit j && decide (tB r j &&& s ≠ 0))
def S_isFeast : px_S := fun av σ k => match av with
  | [.inr (.inr (some 0)), .inl w] => mt_R σ.2.2 ∧ tok (σ.1 1) ∧ w = nI w.toNatClampNeg ∧ w.toNatClampNeg < 2048 ∧ k (some (.inl (mb (fst (σ.1 1) w.toNatClampNeg (tN (σ.1 1)))))) σ
  | _ => False
theorem S_isFeast_sp {av : List px_V} {σ : px_M} {k : Option px_V → px_M → Prop} (h : S_isFeast av σ k) : ∃ s, av = [.inr (.inr (some 0)), .inl (nI s)] ∧ mt_R σ.2.2 ∧ tok (σ.1 1) ∧ s < 2048 ∧ k (some (.inl (mb (fst (σ.1 1) s (tN (σ.1 1)))))) σ := by
  unfold S_isFeast at h
  split at h
  · obtain ⟨h1, h2, h3, h4, h5⟩ := h
    exact ⟨_, by rw [← h3], h1, h2, h4, h5⟩
  · exact h.elim
theorem fst_false {r : Nat → Int32} {s : Nat} : ∀ {n j : Nat}, j < n → s.testBit j = true → ¬ tB r j &&& s = 0 → fst r s n = false := by
  intro n
  induction n with
  | zero => intro j h; omega
  | succ n ih =>
    intro j h h1 h2
    by_cases hj : j = n
    · subst hj; simp [fst, h1, h2]
    · simp [fst, ih (j := j) (by omega) h1 h2]
def I_isFeast (s : Nat) (σ : px_M) : Nat → px_Ls → px_M → Prop := fun j ls τ => ls = [some (.inr (.inr (some 0))), some (.inl (nI s)), some (.inl (nI j))] ∧ τ = σ ∧ fst (σ.1 1) s j = true
set_option maxHeartbeats 4000000 in
set_option maxRecDepth 100000 in
theorem m_isFeast {tab : px_T} (ht : mt_ok tab) {h : Nat} (hh : 2 ≤ h) : px_Ok tab pn_i40 h S_isFeast := by
  refine px_mth ht.1 (by decide +kernel) (fun av σ k hS => by obtain ⟨s, rfl, hR, ⟨hn, h1, hnb, hlt⟩, hs, hS⟩ := S_isFeast_sp hS; exact Nat.le_of_ble_eq_true rfl) (fun C hT hC av σ k hS => ?_)
  replace hS := S_isFeast_sp hS
  obtain ⟨s, rfl, hR, ⟨hn, h1, hnb, hlt⟩, hs, hS⟩ := hS
  subst hT
  have lp := px_loop (C := C) (k := k) (pc := 2) (I_isFeast s σ) (tN (σ.1 1)) (fun j ls σ' hj hI hn2 => by
    obtain ⟨rfl, rfl, hf⟩ := hI
    refine px_runG (h - 1) ck_40 [(31, S_near), (14, S_isIn)] [(2, px_li (I_isFeast s σ') j (tN (σ'.1 1)))] 24 hC (px_sp1 (m_near ht (by omega)) (px_sp1 (m_isIn ht (by omega)) px_nosp)) (by omega) (px_cut1 (px_li_ok hn2) px_nocut) (fun G Jf hG hJf => ?_)
    simp only [↓hG, ↓hJf, ↓px_go, ↓px_vc, ↓px_ex, ↓px_jp, ↓px_gi, ↓px_gl, ↓px_gr, ↓px_s1, ↓px_s2, ↓px_nl, ↓px_i1, ↓px_l1, ↓px_r1, ↓px_q1, ↓px_i2, ↓px_l2, ↓px_il, ↓px_d0, ↓px_d1, ↓px_d2, ↓px_pop, px_sz, ↓px_sp, ↓px_obj, ↓px_arr, ↓px_rd, ↓px_pt, ↓px_rok, ↓px_rv, ↓px_fill, ↓px_sl, ↓px_li, ↓px_l0, ↓px_lw, ↓px_lc, px_wi, px_wl, px_wr, px_up_at, lc_lt, lc_ge, lc_gt, lc_le, lc_eq, ↓reduceIte, Nat.reduceEqDiff, Nat.reduceLeDiff, Nat.reduceAdd, Nat.reduceSub, reduceCtorEq, List.length_cons, List.length_nil, Option.toList_some, Option.toList_none, List.cons_append, List.nil_append, true_and, and_true, false_and, and_false, true_or, or_true, false_or, or_false, and_self, or_self, not_false_eq_true, not_true_eq_false, false_implies, forall_const, true_implies, ↓bk_40, ↓pn_i40, ↓S_near, ↓S_isIn, I_isFeast, mt_0 ht, mt_1 ht, mr_1 hR]
    try simp (disch := omega) only [true_and, and_true, mb_bit, mb_house, bcI_eq, px_up_row, ni_divL, ni_subL, nI_add, pk_mul, nI_leI, nI_ltI, nI_eq, vp_in_eq, nI_clamp, fa_and, fa_or, ni_bit1, ni_1s, nI_l, mb_eq0, mb_ne0, mb_eq1, h1, hnb]
    refine ⟨by omega, fun q => ?_, fun q => ⟨fun hb => ?_, fun hb => ⟨hR, by omega, fun hz => ?_, fun hz => ?_⟩⟩⟩
    · have : j = tN (σ'.1 1) := by omega
      rw [← this, hf] at hS
      exact hS
    · exact ⟨by omega, by simp [fst, hf, hb]⟩
    · have hj11 : j < 11 := by omega
      have hl := hlt j hj11
      have h31 : tB (σ'.1 1) j &&& s < 2048 := and_lt hl
      rw [hnb j hj11, fa_and] at hz
      have hz2 : tB (σ'.1 1) j &&& s = 0 := (nI_eq (by omega) (by omega)).mp hz
      exact ⟨by omega, by simp [fst, hf, hz2]⟩
    · have hj11 : j < 11 := by omega
      have hz2 : ¬ tB (σ'.1 1) j &&& s = 0 := by
        intro q2
        apply hz
        rw [hnb j hj11, fa_and, q2]
      have hb' : s.testBit j = true := by simpa using hb
      rw [fst_false (j := j) (by omega) hb' hz2] at hS
      exact hS)
  refine px_runG (h - 1) ck_40 [] [(2, px_l0 (I_isFeast s σ))] 24 hC px_nosp (by omega) (px_cut1 (px_l0_ok lp) px_nocut) (fun G Jf hG hJf => ?_)
  simp only [↓hG, ↓hJf, ↓px_go, ↓px_vc, ↓px_ex, ↓px_jp, ↓px_gi, ↓px_gl, ↓px_gr, ↓px_s1, ↓px_s2, ↓px_nl, ↓px_i1, ↓px_l1, ↓px_r1, ↓px_q1, ↓px_i2, ↓px_l2, ↓px_il, ↓px_d0, ↓px_d1, ↓px_d2, ↓px_pop, px_sz, ↓px_sp, ↓px_obj, ↓px_arr, ↓px_rd, ↓px_pt, ↓px_rok, ↓px_rv, ↓px_fill, ↓px_sl, ↓px_li, ↓px_l0, ↓px_lw, ↓px_lc, px_wi, px_wl, px_wr, px_up_at, lc_lt, lc_ge, lc_gt, lc_le, lc_eq, ↓reduceIte, Nat.reduceEqDiff, Nat.reduceLeDiff, Nat.reduceAdd, Nat.reduceSub, reduceCtorEq, List.length_cons, List.length_nil, Option.toList_some, Option.toList_none, List.cons_append, List.nil_append, true_and, and_true, false_and, and_false, true_or, or_true, false_or, or_false, and_self, or_self, not_false_eq_true, not_true_eq_false, false_implies, forall_const, true_implies, ↓bk_40, ↓pn_i40, I_isFeast]
  try simp (disch := omega) only [true_and, and_true, mb_bit, mb_house, bcI_eq, px_up_row, ni_divL, ni_subL, nI_add, pk_mul, nI_leI, nI_ltI, nI_eq, vp_in_eq, nI_clamp, fa_and, fa_or, ni_bit1, ni_1s, nI_l, mb_eq0, mb_ne0, mb_eq1]
  rfl
