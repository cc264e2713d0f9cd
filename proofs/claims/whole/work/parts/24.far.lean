/-! the model: laysFar -/
/-- only the row of label l has changed -/
def fr (l : Nat) (σ τ : px_M) : Prop := (∀ m, m ≠ l → τ.1 m = σ.1 m) ∧ τ.2 = σ.2
theorem fr_rf (l : Nat) (σ : px_M) : fr l σ σ := ⟨fun _ _ => rfl, rfl⟩
theorem fr_up {l : Nat} {σ τ : px_M} (h : fr l σ τ) (i : Nat) (v : Int32) : fr l σ (px_up τ.1 l i v, τ.2) := ⟨fun m hm => by show px_up τ.1 l i v m = _; rw [px_up_row hm]; exact h.1 m hm, h.2⟩
theorem up_s {f : Nat → Nat → Int32} {l i j : Nat} {v : Int32} : px_up f l i v l j = if j = i then v else f l j := by simp [px_up]
/-- the numbers far, after m steps -/
def fw (r : Nat → Int32) (a m : Nat) (row : Nat → Int32) : Prop := ∀ h, h < 11 → row h = nI (fd (tB r) (tN r) a m h)
def S_laysFar : px_S := fun av σ k => match av with
  | [.inr (.inr (some 0)), .inl w] => mt_R σ.2.2 ∧ tok (σ.1 1) ∧ tok2 (σ.1 1) ∧ w = nI w.toNatClampNeg ∧ w.toNatClampNeg < 11 ∧ ∀ (M : Nat) (τ : px_M), fr 15 σ τ → fw (σ.1 1) w.toNatClampNeg M (τ.1 15) → ly (tB (σ.1 1)) (tN (σ.1 1)) w.toNatClampNeg (M + 1) = 0 → (∀ i, i < M → ¬ ly (tB (σ.1 1)) (tN (σ.1 1)) w.toNatClampNeg (i + 1) = 0) → k (some (.inl (nI M))) τ
  | _ => False
theorem S_laysFar_sp {av : List px_V} {σ : px_M} {k : Option px_V → px_M → Prop} (h : S_laysFar av σ k) : ∃ w, av = [.inr (.inr (some 0)), .inl w] ∧ (mt_R σ.2.2 ∧ tok (σ.1 1) ∧ tok2 (σ.1 1) ∧ w = nI w.toNatClampNeg ∧ w.toNatClampNeg < 11 ∧ ∀ (M : Nat) (τ : px_M), fr 15 σ τ → fw (σ.1 1) w.toNatClampNeg M (τ.1 15) → ly (tB (σ.1 1)) (tN (σ.1 1)) w.toNatClampNeg (M + 1) = 0 → (∀ i, i < M → ¬ ly (tB (σ.1 1)) (tN (σ.1 1)) w.toNatClampNeg (i + 1) = 0) → k (some (.inl (nI M))) τ) := by
  unfold S_laysFar at h
  split at h
  · exact ⟨_, rfl, h⟩
  · exact h.elim
def I_far1 (a : Nat) (σ : px_M) : Nat → px_Ls → px_M → Prop := fun j ls τ => ls = [some (.inr (.inr (some 0))), some (.inl (nI a)), some (.inl (nI j)), none, none, none, none] ∧ fr 15 σ τ ∧ ∀ h, h < j → τ.1 15 h = nI (fd (tB (σ.1 1)) (tN (σ.1 1)) a 0 h)
def I_far2 (a : Nat) (σ : px_M) : Nat → px_Ls → px_M → Prop := fun m ls τ => ∃ z5 z6, ls = [some (.inr (.inr (some 0))), some (.inl (nI a)), some (.inl (nI (ly (tB (σ.1 1)) (tN (σ.1 1)) a m))), some (.inl (nI (rc (tB (σ.1 1)) (tN (σ.1 1)) m (2 ^ a)))), some (.inl (nI m)), z5, z6] ∧ fr 15 σ τ ∧ fw (σ.1 1) a m (τ.1 15) ∧ (∀ i, i + 1 < m → ¬ ly (tB (σ.1 1)) (tN (σ.1 1)) a (i + 1) = 0)
def I_far3 (a m : Nat) (σ τ0 : px_M) : Nat → px_Ls → px_M → Prop := fun j ls τ => ls = [some (.inr (.inr (some 0))), some (.inl (nI a)), some (.inl (nI (ly (tB (σ.1 1)) (tN (σ.1 1)) a m))), some (.inl (nI (rc (tB (σ.1 1)) (tN (σ.1 1)) m (2 ^ a)))), some (.inl (nI m)), some (.inl (nI (ar (tB (σ.1 1)) j (ly (tB (σ.1 1)) (tN (σ.1 1)) a m)))), some (.inl (nI j))] ∧ τ = τ0
def I_far4 (a m : Nat) (σ : px_M) : Nat → px_Ls → px_M → Prop := fun j ls τ => ∃ z5, ls = [some (.inr (.inr (some 0))), some (.inl (nI a)), some (.inl (nI (ly (tB (σ.1 1)) (tN (σ.1 1)) a (m + 1)))), some (.inl (nI (rc (tB (σ.1 1)) (tN (σ.1 1)) (m + 1) (2 ^ a)))), some (.inl (nI (m + 1))), z5, some (.inl (nI j))] ∧ fr 15 σ τ ∧ (∀ h, h < j → τ.1 15 h = nI (fd (tB (σ.1 1)) (tN (σ.1 1)) a (m + 1) h)) ∧ (∀ h, j ≤ h → h < 11 → τ.1 15 h = nI (fd (tB (σ.1 1)) (tN (σ.1 1)) a m h))
set_option maxHeartbeats 4000000 in
set_option maxRecDepth 100000 in
theorem m_laysFar {tab : px_T} (ht : mt_ok tab) {h : Nat} (hh : 2 ≤ h) : px_Ok tab pn_i35 h S_laysFar := by
  refine px_mth ht.1 (by decide +kernel) (fun av σ k hS => by obtain ⟨w, rfl, hR, htk, htk2, hw, hw2, hS⟩ := S_laysFar_sp hS; exact Nat.le_of_ble_eq_true rfl) (fun C hT hC av σ k hS => ?_)
  replace hS := S_laysFar_sp hS
  obtain ⟨w, rfl, hR, htk, htk2, hw, hw2, hS⟩ := hS
  subst hT
  obtain ⟨a, ha0⟩ : ∃ a, w.toNatClampNeg = a := ⟨_, rfl⟩
  rw [ha0] at hw hw2 hS
  subst hw
  clear ha0
  obtain ⟨hn, h1, hnb, hlt⟩ := id htk
  have hltn : ∀ j, j < tN (σ.1 1) → tB (σ.1 1) j < 2048 := fun j hj => hlt j (by omega)
  have hlt2 : ∀ j, j < tN (σ.1 1) → tB (σ.1 1) j < 2 ^ tN (σ.1 1) := fun j hj => htk2 j (by omega)
  have hpa := pw_lt hw2
  -- the numbers of a level
  have lp4 := fun (m : Nat) (nx : ∀ ls τ, I_far2 a σ (m + 1) ls τ → px_W C k 40 ls [] τ) (hpre : ∀ i, i < m → ¬ ly (tB (σ.1 1)) (tN (σ.1 1)) a (i + 1) = 0) => px_loop (C := C) (k := k) (pc := 109) (I_far4 a m σ) (tN (σ.1 1)) (fun j ls τ hj hI hn2 => by
    obtain ⟨z5, rfl, hfr, hlo, hhi⟩ := hI
    have hr1 : τ.1 1 = σ.1 1 := hfr.1 1 (by decide)
    have hR' : mt_R τ.2.2 := by rw [hfr.2]; exact hR
    have hl := ly_lt hw2 hltn (m + 1)
    refine px_runG (h - 1) ck_35 [(14, S_isIn)] [(109, px_li (I_far4 a m σ) j (tN (σ.1 1))), (40, px_lw (I_far2 a σ (m + 1)))] 24 hC (px_sp1 (m_isIn ht (by omega)) px_nosp) (by omega) (px_cut1 (px_li_ok hn2) (px_cut1 (px_lw_ok nx) px_nocut)) (fun G Jf hG hJf => ?_)
    simp only [↓hG, ↓hJf, ↓px_go, ↓px_vc, ↓px_ex, ↓px_jp, ↓px_gi, ↓px_gl, ↓px_gr, ↓px_s1, ↓px_s2, ↓px_nl, ↓px_i1, ↓px_l1, ↓px_r1, ↓px_q1, ↓px_i2, ↓px_l2, ↓px_il, ↓px_d0, ↓px_d1, ↓px_d2, ↓px_pop, px_sz, ↓px_sp, ↓px_obj, ↓px_arr, ↓px_rd, ↓px_pt, ↓px_rok, ↓px_rv, ↓px_fill, ↓px_sl, ↓px_li, ↓px_l0, ↓px_lw, ↓px_lc, px_wi, px_wl, px_wr, px_up_at, lc_lt, lc_ge, lc_gt, lc_le, lc_eq, ↓reduceIte, Nat.reduceEqDiff, Nat.reduceLeDiff, Nat.reduceAdd, Nat.reduceSub, reduceCtorEq, List.length_cons, List.length_nil, Option.toList_some, Option.toList_none, List.cons_append, List.nil_append, true_and, and_true, false_and, and_false, true_or, or_true, false_or, or_false, and_self, or_self, not_false_eq_true, not_true_eq_false, false_implies, forall_const, true_implies, ↓bk_35, ↓pn_i35, ↓S_isIn, I_far4, I_far2, mt_0 ht, mt_1 ht, mt_15 ht, mr_1 hR', mr_15 hR']
    try simp (disch := omega) only [true_and, and_true, mb_bit, mb_house, bcI_eq, px_up_row, ni_divL, ni_subL, nI_add, pk_mul, nI_leI, nI_ltI, nI_eq, vp_in_eq, nI_clamp, fa_and, fa_or, ni_bit1, ni_1s, nI_l, mb_eq0, mb_ne0, mb_eq1, hr1, h1]
    refine ⟨by omega, fun q => ?_, fun q => ⟨fun hb => ⟨by omega, ?_⟩, fun hb => ⟨by omega, by omega, ?_⟩⟩⟩
    · have hjn : j = tN (σ.1 1) := by omega
      refine ⟨_, _, rfl, hfr, fun h hh => ?_, fun i hi => hpre i (by omega)⟩
      by_cases hhj : h < j
      · exact hlo h hhj
      · rw [hhi h (by omega) hh]
        have : (ly (tB (σ.1 1)) (tN (σ.1 1)) a (m + 1)).testBit h = false := by
          cases hbb : (ly (tB (σ.1 1)) (tN (σ.1 1)) a (m + 1)).testBit h with
          | false => rfl
          | true => exact absurd (ly_in hw2 hltn hlt2 hbb) (by omega)
        simp [fd, this]
    · refine ⟨_, rfl, hfr, fun h hh => ?_, fun h hh => hhi h (by omega)⟩
      by_cases hhj : h = j
      · subst hhj
        rw [hhi h (by omega) (by omega)]
        simp [fd, hb]
      · exact hlo h (by omega)
    · have hb' : (ly (tB (σ.1 1)) (tN (σ.1 1)) a (m + 1)).testBit j = true := by simpa using hb
      refine ⟨_, rfl, fr_up hfr _ _, fun h hh => ?_, fun h hh hh2 => ?_⟩
      · by_cases hhj : h = j
        · subst hhj; rw [if_pos rfl]; simp [fd, hb']
        · rw [if_neg hhj]; exact hlo h (by omega)
      · rw [if_neg (by omega)]
        exact hhi h (by omega) hh2)
  -- the neighbours of a level
  have lp3 := fun (m : Nat) (τ0 : px_M) (hfr : fr 15 σ τ0) (hfw : fw (σ.1 1) a m (τ0.1 15)) (nx : ∀ ls τ, I_far2 a σ (m + 1) ls τ → px_W C k 40 ls [] τ) (hpre : ∀ i, i < m → ¬ ly (tB (σ.1 1)) (tN (σ.1 1)) a (i + 1) = 0) => px_loop (C := C) (k := k) (pc := 50) (I_far3 a m σ τ0) (tN (σ.1 1)) (fun j ls τ hj hI hn2 => by
    obtain ⟨rfl, rfl⟩ := hI
    have hr1 : τ.1 1 = σ.1 1 := hfr.1 1 (by decide)
    have hR' : mt_R τ.2.2 := by rw [hfr.2]; exact hR
    have hl := ly_lt hw2 hltn m
    have hat : ar (tB (σ.1 1)) j (ly (tB (σ.1 1)) (tN (σ.1 1)) a m) < 2048 := ar_lt (fun q hq => hltn q (by omega))
    refine px_runG (h - 1) ck_35 [(14, S_isIn), (31, S_near)] [(50, px_li (I_far3 a m σ τ) j (tN (σ.1 1))), (109, px_l0 (I_far4 a m σ))] 24 hC (px_sp1 (m_isIn ht (by omega)) (px_sp1 (m_near ht (by omega)) px_nosp)) (by omega) (px_cut1 (px_li_ok hn2) (px_cut1 (px_l0_ok (lp4 m nx hpre)) px_nocut)) (fun G Jf hG hJf => ?_)
    simp only [↓hG, ↓hJf, ↓px_go, ↓px_vc, ↓px_ex, ↓px_jp, ↓px_gi, ↓px_gl, ↓px_gr, ↓px_s1, ↓px_s2, ↓px_nl, ↓px_i1, ↓px_l1, ↓px_r1, ↓px_q1, ↓px_i2, ↓px_l2, ↓px_il, ↓px_d0, ↓px_d1, ↓px_d2, ↓px_pop, px_sz, ↓px_sp, ↓px_obj, ↓px_arr, ↓px_rd, ↓px_pt, ↓px_rok, ↓px_rv, ↓px_fill, ↓px_sl, ↓px_li, ↓px_l0, ↓px_lw, ↓px_lc, px_wi, px_wl, px_wr, px_up_at, lc_lt, lc_ge, lc_gt, lc_le, lc_eq, ↓reduceIte, Nat.reduceEqDiff, Nat.reduceLeDiff, Nat.reduceAdd, Nat.reduceSub, reduceCtorEq, List.length_cons, List.length_nil, Option.toList_some, Option.toList_none, List.cons_append, List.nil_append, true_and, and_true, false_and, and_false, true_or, or_true, false_or, or_false, and_self, or_self, not_false_eq_true, not_true_eq_false, false_implies, forall_const, true_implies, ↓bk_35, ↓pn_i35, ↓S_isIn, ↓S_near, I_far4, I_far3, mt_0 ht, mt_1 ht, mr_1 hR']
    try simp (disch := omega) only [true_and, and_true, mb_bit, mb_house, bcI_eq, px_up_row, ni_divL, ni_subL, nI_add, pk_mul, nI_leI, nI_ltI, nI_eq, vp_in_eq, nI_clamp, fa_and, fa_or, ni_bit1, ni_1s, nI_l, mb_eq0, mb_ne0, mb_eq1, hr1, h1, hnb, ni_nd]
    refine ⟨by omega, fun q => ?_, fun q => ?_⟩
    · have hjn : j = tN (σ.1 1) := by omega
      subst hjn
      rw [ly_next hw2 hltn m, rc_next hw2 hltn m]
      exact ⟨_, rfl, hfr, fun h hh => absurd hh (by omega), fun h _ hh => hfw h hh⟩
    · refine ⟨fun hb => ⟨by omega, ?_⟩, fun hb => ⟨hR', by omega, by omega, ?_⟩⟩
      · simp [ar, hb]
      · have hb' : (ly (tB (σ.1 1)) (tN (σ.1 1)) a m).testBit j = true := by simpa using hb
        rw [hnb j (by omega), fa_or]
        simp [ar, hb'])
  -- the levels
  have lp2 := px_loopm (C := C) (k := k) (pc := 40) (I_far2 a σ) (fun m => 2 * (2048 - rc (tB (σ.1 1)) (tN (σ.1 1)) m (2 ^ a)) + (if ly (tB (σ.1 1)) (tN (σ.1 1)) a m = 0 then 0 else 1)) (fun m ls τ hI nx => by
    obtain ⟨z5, z6, rfl, hfr, hfw, hpre⟩ := hI
    have hl := ly_lt hw2 hltn m
    have hrl := rc_lt hpa hltn (m + 1)
    have nx2 : ¬ ly (tB (σ.1 1)) (tN (σ.1 1)) a m = 0 → ∀ ls τ, I_far2 a σ (m + 1) ls τ → px_W C k 40 ls [] τ := fun h0 ls τ hI => by
      refine nx (m + 1) ls τ ?_ hI
      simp only [if_neg h0]
      by_cases hz : ly (tB (σ.1 1)) (tN (σ.1 1)) a (m + 1) = 0
      · have := rc_next hw2 hltn m
        rw [hz, Nat.or_zero] at this
        rw [if_pos hz, ← this]
        omega
      · have := rc_grow hw2 hltn hz
        rw [if_neg hz]
        omega
    by_cases h0 : ly (tB (σ.1 1)) (tN (σ.1 1)) a m = 0
    ·
      refine px_runG (h - 1) ck_35 [] [(50, (fun _ _ _ => False))] 24 hC px_nosp (by omega) (px_cut1 (fun _ _ _ hz => hz.elim) px_nocut) (fun G Jf hG hJf => ?_)
      simp only [↓hG, ↓hJf, ↓px_go, ↓px_vc, ↓px_ex, ↓px_jp, ↓px_gi, ↓px_gl, ↓px_gr, ↓px_s1, ↓px_s2, ↓px_nl, ↓px_i1, ↓px_l1, ↓px_r1, ↓px_q1, ↓px_i2, ↓px_l2, ↓px_il, ↓px_d0, ↓px_d1, ↓px_d2, ↓px_pop, px_sz, ↓px_sp, ↓px_obj, ↓px_arr, ↓px_rd, ↓px_pt, ↓px_rok, ↓px_rv, ↓px_fill, ↓px_sl, ↓px_li, ↓px_l0, ↓px_lw, ↓px_lc, px_wi, px_wl, px_wr, px_up_at, lc_lt, lc_ge, lc_gt, lc_le, lc_eq, ↓reduceIte, Nat.reduceEqDiff, Nat.reduceLeDiff, Nat.reduceAdd, Nat.reduceSub, reduceCtorEq, List.length_cons, List.length_nil, Option.toList_some, Option.toList_none, List.cons_append, List.nil_append, true_and, and_true, false_and, and_false, true_or, or_true, false_or, or_false, and_self, or_self, not_false_eq_true, not_true_eq_false, false_implies, forall_const, true_implies, ↓bk_35, ↓pn_i35, mt_0 ht]
      try simp (disch := omega) only [true_and, and_true, mb_bit, mb_house, bcI_eq, px_up_row, ni_divL, ni_subL, nI_add, pk_mul, nI_leI, nI_ltI, nI_eq, vp_in_eq, nI_clamp, fa_and, fa_or, ni_bit1, ni_1s, nI_l, mb_eq0, mb_ne0, mb_eq1]
      refine ⟨fun _ => ?_, fun q => absurd h0 q⟩
      obtain ⟨M, rfl⟩ : ∃ M, m = M + 1 := by
        cases m with
        | zero => exact absurd h0 (ly_0 _ _ _)
        | succ M => exact ⟨M, rfl⟩
      rw [ni_subL (by omega), show M + 1 - 1 = M by omega]
      refine hS M τ hfr (fun h hh => ?_) h0 (fun i hi => hpre i (by omega))
      rw [hfw h hh]
      simp [fd, h0]
    · have hpre' : ∀ i, i < m → ¬ ly (tB (σ.1 1)) (tN (σ.1 1)) a (i + 1) = 0 := by
        intro i hi
        by_cases him : i + 1 < m
        · exact hpre i him
        · have : i + 1 = m := by omega
          rw [this]; exact h0
      refine px_runG (h - 1) ck_35 [] [(50, px_l0 (I_far3 a m σ τ))] 24 hC px_nosp (by omega) (px_cut1 (px_l0_ok (lp3 m τ hfr hfw (nx2 h0) hpre')) px_nocut) (fun G Jf hG hJf => ?_)
      simp only [↓hG, ↓hJf, ↓px_go, ↓px_vc, ↓px_ex, ↓px_jp, ↓px_gi, ↓px_gl, ↓px_gr, ↓px_s1, ↓px_s2, ↓px_nl, ↓px_i1, ↓px_l1, ↓px_r1, ↓px_q1, ↓px_i2, ↓px_l2, ↓px_il, ↓px_d0, ↓px_d1, ↓px_d2, ↓px_pop, px_sz, ↓px_sp, ↓px_obj, ↓px_arr, ↓px_rd, ↓px_pt, ↓px_rok, ↓px_rv, ↓px_fill, ↓px_sl, ↓px_li, ↓px_l0, ↓px_lw, ↓px_lc, px_wi, px_wl, px_wr, px_up_at, lc_lt, lc_ge, lc_gt, lc_le, lc_eq, ↓reduceIte, Nat.reduceEqDiff, Nat.reduceLeDiff, Nat.reduceAdd, Nat.reduceSub, reduceCtorEq, List.length_cons, List.length_nil, Option.toList_some, Option.toList_none, List.cons_append, List.nil_append, true_and, and_true, false_and, and_false, true_or, or_true, false_or, or_false, and_self, or_self, not_false_eq_true, not_true_eq_false, false_implies, forall_const, true_implies, ↓bk_35, ↓pn_i35, mt_0 ht, I_far3]
      try simp (disch := omega) only [true_and, and_true, mb_bit, mb_house, bcI_eq, px_up_row, ni_divL, ni_subL, nI_add, pk_mul, nI_leI, nI_ltI, nI_eq, vp_in_eq, nI_clamp, fa_and, fa_or, ni_bit1, ni_1s, nI_l, mb_eq0, mb_ne0, mb_eq1]
      exact ⟨fun q => absurd q h0, fun _ => rfl⟩)
  -- the first numbers
  have lp1 := px_loop (C := C) (k := k) (pc := 2) (I_far1 a σ) 11 (fun j ls τ hj hI hn2 => by
    obtain ⟨rfl, hfr, hlo⟩ := hI
    have hR' : mt_R τ.2.2 := by rw [hfr.2]; exact hR
    refine px_runG (h - 1) ck_35 [] [(2, px_li (I_far1 a σ) j 11), (40, px_lw (I_far2 a σ 0))] 24 hC px_nosp (by omega) (px_cut1 (px_li_ok hn2) (px_cut1 (px_lw_ok (lp2 0)) px_nocut)) (fun G Jf hG hJf => ?_)
    simp only [↓hG, ↓hJf, ↓px_go, ↓px_vc, ↓px_ex, ↓px_jp, ↓px_gi, ↓px_gl, ↓px_gr, ↓px_s1, ↓px_s2, ↓px_nl, ↓px_i1, ↓px_l1, ↓px_r1, ↓px_q1, ↓px_i2, ↓px_l2, ↓px_il, ↓px_d0, ↓px_d1, ↓px_d2, ↓px_pop, px_sz, ↓px_sp, ↓px_obj, ↓px_arr, ↓px_rd, ↓px_pt, ↓px_rok, ↓px_rv, ↓px_fill, ↓px_sl, ↓px_li, ↓px_l0, ↓px_lw, ↓px_lc, px_wi, px_wl, px_wr, px_up_at, lc_lt, lc_ge, lc_gt, lc_le, lc_eq, ↓reduceIte, Nat.reduceEqDiff, Nat.reduceLeDiff, Nat.reduceAdd, Nat.reduceSub, reduceCtorEq, List.length_cons, List.length_nil, Option.toList_some, Option.toList_none, List.cons_append, List.nil_append, true_and, and_true, false_and, and_false, true_or, or_true, false_or, or_false, and_self, or_self, not_false_eq_true, not_true_eq_false, false_implies, forall_const, true_implies, ↓bk_35, ↓pn_i35, I_far1, I_far2, mt_0 ht, mt_15 ht, mr_15 hR']
    try simp (disch := omega) only [true_and, and_true, mb_bit, mb_house, bcI_eq, px_up_row, ni_divL, ni_subL, nI_add, pk_mul, nI_leI, nI_ltI, nI_eq, vp_in_eq, nI_clamp, fa_and, fa_or, ni_bit1, ni_1s, nI_l, mb_eq0, mb_ne0, mb_eq1]
    refine ⟨fun q => ?_, fun q => ⟨fun hja => ⟨by omega, by omega, fr_up hfr _ _, fun h hh => ?_⟩, fun hja => ⟨by omega, by omega, fr_up hfr _ _, fun h hh => ?_⟩⟩⟩
    · exact ⟨_, _, rfl, hfr, fun h hh => hlo h (by omega), fun i hi => absurd hi (by omega)⟩
    · by_cases hhj : h = j
      · subst hhj; rw [if_pos rfl]; simp [fd, hja]
      · rw [if_neg hhj]; exact hlo h (by omega)
    · by_cases hhj : h = j
      · subst hhj; rw [if_pos rfl]; simp [fd, hja]
      · rw [if_neg hhj]; exact hlo h (by omega))
  refine px_runG (h - 1) ck_35 [] [(2, px_l0 (I_far1 a σ))] 24 hC px_nosp (by omega) (px_cut1 (px_l0_ok lp1) px_nocut) (fun G Jf hG hJf => ?_)
  simp only [↓hG, ↓hJf, ↓px_go, ↓px_vc, ↓px_ex, ↓px_jp, ↓px_gi, ↓px_gl, ↓px_gr, ↓px_s1, ↓px_s2, ↓px_nl, ↓px_i1, ↓px_l1, ↓px_r1, ↓px_q1, ↓px_i2, ↓px_l2, ↓px_il, ↓px_d0, ↓px_d1, ↓px_d2, ↓px_pop, px_sz, ↓px_sp, ↓px_obj, ↓px_arr, ↓px_rd, ↓px_pt, ↓px_rok, ↓px_rv, ↓px_fill, ↓px_sl, ↓px_li, ↓px_l0, ↓px_lw, ↓px_lc, px_wi, px_wl, px_wr, px_up_at, lc_lt, lc_ge, lc_gt, lc_le, lc_eq, ↓reduceIte, Nat.reduceEqDiff, Nat.reduceLeDiff, Nat.reduceAdd, Nat.reduceSub, reduceCtorEq, List.length_cons, List.length_nil, Option.toList_some, Option.toList_none, List.cons_append, List.nil_append, true_and, and_true, false_and, and_false, true_or, or_true, false_or, or_false, and_self, or_self, not_false_eq_true, not_true_eq_false, false_implies, forall_const, true_implies, ↓bk_35, ↓pn_i35, I_far1]
  try simp (disch := omega) only [true_and, and_true, mb_bit, mb_house, bcI_eq, px_up_row, ni_divL, ni_subL, nI_add, pk_mul, nI_leI, nI_ltI, nI_eq, vp_in_eq, nI_clamp, fa_and, fa_or, ni_bit1, ni_1s, nI_l, mb_eq0, mb_ne0, mb_eq1]
  exact ⟨fr_rf 15 σ, fun h hh => absurd hh (by omega)⟩
