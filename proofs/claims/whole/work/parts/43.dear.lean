/-! the model: dear -/
def fcn (r : Nat → Int32) (but : Int32) : Nat := (fs (fun m => (dy r but m (tN r) []).isSome) 0 (tN r + 1)).getD 0
theorem fcn_eq {r : Nat → Int32} {but : Int32} {m : Nat} {q : List Nat} (h1 : m ≤ tN r) (h2 : dy r but m (tN r) [] = some q) (h3 : ∀ i, i < m → dy r but i (tN r) [] = none) : fcn r but = m := by
  unfold fcn
  rw [fs_is (x := m) (by omega) (by omega) (by rw [h2]; rfl) (fun j _ hj => by rw [h3 j hj]; rfl)]
  rfl
theorem fcn_le (r : Nat → Int32) (but : Int32) : fcn r but ≤ tN r := by
  unfold fcn
  cases h : fs (fun m => (dy r but m (tN r) []).isSome) 0 (tN r + 1) with
  | none => exact Nat.zero_le _
  | some x => have := (fs_some h).2.1; show x ≤ _; omega
def S_dear : px_S := fun av σ k => av = [.inr (.inr (some 0))] ∧ mt_R σ.2.2 ∧ tok (σ.1 1) ∧ ∀ τ, fr 16 (px_wi σ 0 0 (nI 0)) τ → k (some (.inl (oI (fs (fun h => decide (fcn (σ.1 1) (nI h) < fcn (σ.1 1) (-1))) 0 (tN (σ.1 1)))))) τ
def I_dear (σ : px_M) : Nat → px_Ls → px_M → Prop := fun j ls τ => ls = [some (.inr (.inr (some 0))), some (.inl (nI (fcn (σ.1 1) (-1)))), some (.inl (nI j))] ∧ fr 16 (px_wi σ 0 0 (nI 0)) τ ∧ fs (fun h => decide (fcn (σ.1 1) (nI h) < fcn (σ.1 1) (-1))) j (tN (σ.1 1) - j) = fs (fun h => decide (fcn (σ.1 1) (nI h) < fcn (σ.1 1) (-1))) 0 (tN (σ.1 1))
theorem fr0_r {l : Nat} {σ τ : px_M} (hl : 1 ≠ l) (h : fr l (px_wi σ 0 0 (nI 0)) τ) : τ.1 1 = σ.1 1 := by
  rw [h.1 1 hl]
  show px_up σ.1 0 0 (nI 0) 1 = _
  exact px_up_row (by decide)
set_option maxHeartbeats 4000000 in
set_option maxRecDepth 100000 in
theorem m_dear {tab : px_T} (ht : mt_ok tab) {h : Nat} (hh : 15 ≤ h) : px_Ok tab pn_i94 h S_dear := by
  refine px_mth ht.1 (by decide +kernel) (fun av σ k hS => by obtain ⟨rfl, hR, htk, hS⟩ := hS; exact Nat.le_of_ble_eq_true rfl) (fun C hT hC av σ k hS => ?_)
  obtain ⟨rfl, hR, htk, hS⟩ := hS
  subst hT
  obtain ⟨hn, h1, hnb, hlt⟩ := id htk
  have hc := fcn_le (σ.1 1) (-1)
  have lp := px_loop (C := C) (k := k) (pc := 13) (I_dear σ) (tN (σ.1 1)) (fun j ls τ hj hI hn2 => by
    obtain ⟨rfl, hfr, hfs⟩ := hI
    have hr1 := fr0_r (by decide) hfr
    have hR' : mt_R τ.2.2 := by rw [hfr.2]; exact hR
    refine px_runG (h - 1) ck_94 [(43, S_fewestColours)] [(13, px_li (I_dear σ) j (tN (σ.1 1)))] 24 hC (px_sp1 (m_fewestColours ht (by omega)) px_nosp) (by omega) (px_cut1 (px_li_ok hn2) px_nocut) (fun G Jf hG hJf => ?_)
    simp only [↓hG, ↓hJf, ↓px_go, ↓px_vc, ↓px_ex, ↓px_jp, ↓px_gi, ↓px_gl, ↓px_gr, ↓px_s1, ↓px_s2, ↓px_nl, ↓px_i1, ↓px_l1, ↓px_r1, ↓px_q1, ↓px_i2, ↓px_l2, ↓px_il, ↓px_d0, ↓px_d1, ↓px_d2, ↓px_pop, px_sz, ↓px_sp, ↓px_obj, ↓px_arr, ↓px_rd, ↓px_pt, ↓px_rok, ↓px_rv, ↓px_fill, ↓px_sl, ↓px_li, ↓px_l0, ↓px_lw, ↓px_lc, px_wi, px_wl, px_wr, px_up_at, lc_lt, lc_ge, lc_gt, lc_le, lc_eq, ↓reduceIte, Nat.reduceEqDiff, Nat.reduceLeDiff, Nat.reduceAdd, Nat.reduceSub, reduceCtorEq, List.length_cons, List.length_nil, Option.toList_some, Option.toList_none, List.cons_append, List.nil_append, true_and, and_true, false_and, and_false, true_or, or_true, false_or, or_false, and_self, or_self, not_false_eq_true, not_true_eq_false, false_implies, forall_const, true_implies, ↓bk_94, ↓pn_i94, ↓S_fewestColours, I_dear, mt_0 ht, mt_1 ht, mr_1 hR']
    try simp (disch := omega) only [true_and, and_true, mb_bit, mb_house, bcI_eq, px_up_row, ni_divL, ni_subL, nI_add, pk_mul, nI_leI, nI_ltI, nI_eq, vp_in_eq, nI_clamp, fa_and, fa_or, ni_bit1, ni_1s, nI_l, mb_eq0, mb_ne0, mb_eq1, hr1, h1]
    refine ⟨by omega, fun q => ?_, fun q => ⟨hR', htk, fun m l υ g1 g2 g3 g4 g5 => ?_⟩⟩
    · rw [fs_nd q] at hfs
      have hf := hS τ hfr
      rw [← hfs] at hf
      exact hf
    · have hm := fcn_eq g2 g3 g4
      rw [fs_st (by omega)] at hfs
      refine ⟨fun q2 => ⟨by omega, fr_tr hfr g1, ?_⟩, fun q2 => ?_⟩
      · rw [nI_leI (by omega) (by omega)] at q2
        rw [if_neg (by simp; omega)] at hfs
        exact hfs
      · rw [nI_leI (by omega) (by omega)] at q2
        rw [if_pos (by simp; omega)] at hfs
        have hf := hS υ (fr_tr hfr g1)
        rw [← hfs] at hf
        exact hf)
  refine px_runG (h - 1) ck_94 [(43, S_fewestColours)] [(13, px_l0 (I_dear σ))] 24 hC (px_sp1 (m_fewestColours ht (by omega)) px_nosp) (by omega) (px_cut1 (px_l0_ok lp) px_nocut) (fun G Jf hG hJf => ?_)
  simp only [↓hG, ↓hJf, ↓px_go, ↓px_vc, ↓px_ex, ↓px_jp, ↓px_gi, ↓px_gl, ↓px_gr, ↓px_s1, ↓px_s2, ↓px_nl, ↓px_i1, ↓px_l1, ↓px_r1, ↓px_q1, ↓px_i2, ↓px_l2, ↓px_il, ↓px_d0, ↓px_d1, ↓px_d2, ↓px_pop, px_sz, ↓px_sp, ↓px_obj, ↓px_arr, ↓px_rd, ↓px_pt, ↓px_rok, ↓px_rv, ↓px_fill, ↓px_sl, ↓px_li, ↓px_l0, ↓px_lw, ↓px_lc, px_wi, px_wl, px_wr, px_up_at, lc_lt, lc_ge, lc_gt, lc_le, lc_eq, ↓reduceIte, Nat.reduceEqDiff, Nat.reduceLeDiff, Nat.reduceAdd, Nat.reduceSub, reduceCtorEq, List.length_cons, List.length_nil, Option.toList_some, Option.toList_none, List.cons_append, List.nil_append, true_and, and_true, false_and, and_false, true_or, or_true, false_or, or_false, and_self, or_self, not_false_eq_true, not_true_eq_false, false_implies, forall_const, true_implies, ↓bk_94, ↓pn_i94, ↓S_fewestColours, I_dear, mt_0 ht]
  try simp (disch := omega) only [true_and, and_true, mb_bit, mb_house, bcI_eq, px_up_row, ni_divL, ni_subL, nI_add, pk_mul, nI_leI, nI_ltI, nI_eq, vp_in_eq, nI_clamp, fa_and, fa_or, ni_bit1, ni_1s, nI_l, mb_eq0, mb_ne0, mb_eq1]
  exact ⟨hR, htk, fun m q τ g1 g2 g3 g4 _ => ⟨by rw [fcn_eq g2 g3 g4], g1, by rw [Nat.sub_zero]⟩⟩
/-! the model: numbers -/
def zf (row : Nat → Int64) (at_ n : Nat) : Nat → Int64 := fun i => if at_ ≤ i ∧ i < at_ + n then lN 0 else row i
theorem zf_0 (row : Nat → Int64) (p : Nat) : zf row p 0 = row := by
  funext i
  simp only [zf]
  rw [if_neg (by omega)]
theorem zf_s (row : Nat → Int64) (p n : Nat) : (fun i => if i = p + n then lN 0 else zf row p n i) = zf row p (n + 1) := by
  funext i
  simp only [zf]
  by_cases h : i = p + n
  · rw [if_pos h, if_pos (by omega)]
  · rw [if_neg h]
    by_cases h2 : p ≤ i ∧ i < p + n
    · rw [if_pos h2, if_pos (by omega)]
    · rw [if_neg h2, if_neg (by omega)]
def S_numbers : px_S := fun av σ k => match av with
  | [.inr (.inr (some 0)), .inl x, .inl y, .inl z] => mt_R σ.2.2 ∧ ((rgc 0 3 x && rgc 0 3 y) = false → k (some (.inl (-2))) (px_wi σ 0 0 (nI 0))) ∧ (rgc 0 3 x = true → rgc 0 3 y = true → rgc 0 40 z = false → k (some (.inl (-3))) (px_wi σ 0 0 (nI 0))) ∧ ∀ (a b n : Nat) (τ : px_M), a ≤ 3 → b ≤ 3 → n ≤ 40 → x = nI a → y = nI b → z = nI n → frl 37 (px_wi (px_wi (px_wi σ 0 0 (nI 0)) 35 a (nI b)) 36 a (nI n)) τ → τ.2.1 37 = zf (σ.2.1 37) (40 * a) n → k (some (.inl (nI 0))) τ
  | _ => False
theorem S_numbers_sp {av : List px_V} {σ : px_M} {k : Option px_V → px_M → Prop} (h : S_numbers av σ k) : ∃ x y z, av = [.inr (.inr (some 0)), .inl x, .inl y, .inl z] ∧ (mt_R σ.2.2 ∧ ((rgc 0 3 x && rgc 0 3 y) = false → k (some (.inl (-2))) (px_wi σ 0 0 (nI 0))) ∧ (rgc 0 3 x = true → rgc 0 3 y = true → rgc 0 40 z = false → k (some (.inl (-3))) (px_wi σ 0 0 (nI 0))) ∧ ∀ (a b n : Nat) (τ : px_M), a ≤ 3 → b ≤ 3 → n ≤ 40 → x = nI a → y = nI b → z = nI n → frl 37 (px_wi (px_wi (px_wi σ 0 0 (nI 0)) 35 a (nI b)) 36 a (nI n)) τ → τ.2.1 37 = zf (σ.2.1 37) (40 * a) n → k (some (.inl (nI 0))) τ) := by
  unfold S_numbers at h
  split at h
  · exact ⟨_, _, _, rfl, h⟩
  · exact h.elim
def I_numb (a b n : Nat) (σ : px_M) : Nat → px_Ls → px_M → Prop := fun j ls τ => ls = [some (.inr (.inr (some 0))), some (.inl (nI a)), some (.inl (nI b)), some (.inl (nI n)), some (.inl (nI j))] ∧ frl 37 (px_wi (px_wi (px_wi σ 0 0 (nI 0)) 35 a (nI b)) 36 a (nI n)) τ ∧ τ.2.1 37 = zf (σ.2.1 37) (40 * a) j
set_option maxHeartbeats 4000000 in
set_option maxRecDepth 100000 in
theorem m_numbers {tab : px_T} (ht : mt_ok tab) {h : Nat} (hh : 2 ≤ h) : px_Ok tab pn_i128 h S_numbers := by
  refine px_mth ht.1 (by decide +kernel) (fun av σ k hS => by obtain ⟨x, y, z, rfl, hR, hS1, hS2, hS3⟩ := S_numbers_sp hS; exact Nat.le_of_ble_eq_true rfl) (fun C hT hC av σ k hS => ?_)
  replace hS := S_numbers_sp hS
  obtain ⟨x, y, z, rfl, hR, hS1, hS2, hS3⟩ := hS
  subst hT
  cases hx : rgc 0 3 x with
  | false =>
    have hx2 := hx
    unfold rgc at hx2
    refine px_runG (h - 1) ck_128 [(2, S_within)] [(32, (fun _ _ _ => False))] 24 hC (px_sp1 (m_within ht (by omega)) px_nosp) (by omega) (px_cut1 (fun _ _ _ hz => hz.elim) px_nocut) (fun G Jf hG hJf => ?_)
    simp only [↓hG, ↓hJf, ↓px_go, ↓px_vc, ↓px_ex, ↓px_jp, ↓px_gi, ↓px_gl, ↓px_gr, ↓px_s1, ↓px_s2, ↓px_nl, ↓px_i1, ↓px_l1, ↓px_r1, ↓px_q1, ↓px_i2, ↓px_l2, ↓px_il, ↓px_d0, ↓px_d1, ↓px_d2, ↓px_pop, px_sz, ↓px_sp, ↓px_obj, ↓px_arr, ↓px_rd, ↓px_pt, ↓px_rok, ↓px_rv, ↓px_fill, ↓px_sl, ↓px_li, ↓px_l0, ↓px_lw, ↓px_lc, px_wi, px_wl, px_wr, px_up_at, lc_lt, lc_ge, lc_gt, lc_le, lc_eq, ↓reduceIte, Nat.reduceEqDiff, Nat.reduceLeDiff, Nat.reduceAdd, Nat.reduceSub, reduceCtorEq, List.length_cons, List.length_nil, Option.toList_some, Option.toList_none, List.cons_append, List.nil_append, true_and, and_true, false_and, and_false, true_or, or_true, false_or, or_false, and_self, or_self, not_false_eq_true, not_true_eq_false, false_implies, forall_const, true_implies, ↓bk_128, ↓pn_i128, ↓S_within, mt_0 ht]
    try simp (disch := omega) only [true_and, and_true, mb_bit, mb_house, bcI_eq, px_up_row, ni_divL, ni_subL, nI_add, pk_mul, nI_leI, nI_ltI, nI_eq, vp_in_eq, nI_clamp, fa_and, fa_or, ni_bit1, ni_1s, nI_l, mb_eq0, mb_ne0, mb_eq1, hx2]
    try simp only [Bool.true_eq_false, Bool.false_eq_true, reduceCtorEq, not_true_eq_false, not_false_eq_true, false_implies, true_implies, forall_const, and_self, true_and, and_true]
    have hf := hS1 (by rw [hx]; rfl)
    exact hf
  | true =>
    obtain ⟨a, -, ha, rfl⟩ := rg_of hx (by omega) (by omega)
    have hx2 := hx
    unfold rgc at hx2
    rw [nI_l (by omega)] at hx2
    cases hy : rgc 0 3 y with
    | false =>
      have hy2 := hy
      unfold rgc at hy2
      refine px_runG (h - 1) ck_128 [(2, S_within)] [(32, (fun _ _ _ => False))] 24 hC (px_sp1 (m_within ht (by omega)) px_nosp) (by omega) (px_cut1 (fun _ _ _ hz => hz.elim) px_nocut) (fun G Jf hG hJf => ?_)
      simp only [↓hG, ↓hJf, ↓px_go, ↓px_vc, ↓px_ex, ↓px_jp, ↓px_gi, ↓px_gl, ↓px_gr, ↓px_s1, ↓px_s2, ↓px_nl, ↓px_i1, ↓px_l1, ↓px_r1, ↓px_q1, ↓px_i2, ↓px_l2, ↓px_il, ↓px_d0, ↓px_d1, ↓px_d2, ↓px_pop, px_sz, ↓px_sp, ↓px_obj, ↓px_arr, ↓px_rd, ↓px_pt, ↓px_rok, ↓px_rv, ↓px_fill, ↓px_sl, ↓px_li, ↓px_l0, ↓px_lw, ↓px_lc, px_wi, px_wl, px_wr, px_up_at, lc_lt, lc_ge, lc_gt, lc_le, lc_eq, ↓reduceIte, Nat.reduceEqDiff, Nat.reduceLeDiff, Nat.reduceAdd, Nat.reduceSub, reduceCtorEq, List.length_cons, List.length_nil, Option.toList_some, Option.toList_none, List.cons_append, List.nil_append, true_and, and_true, false_and, and_false, true_or, or_true, false_or, or_false, and_self, or_self, not_false_eq_true, not_true_eq_false, false_implies, forall_const, true_implies, ↓bk_128, ↓pn_i128, ↓S_within, mt_0 ht]
      try simp (disch := omega) only [true_and, and_true, mb_bit, mb_house, bcI_eq, px_up_row, ni_divL, ni_subL, nI_add, pk_mul, nI_leI, nI_ltI, nI_eq, vp_in_eq, nI_clamp, fa_and, fa_or, ni_bit1, ni_1s, nI_l, mb_eq0, mb_ne0, mb_eq1, hx2, hy2]
      try simp only [Bool.true_eq_false, Bool.false_eq_true, reduceCtorEq, not_true_eq_false, not_false_eq_true, false_implies, true_implies, forall_const, and_self, true_and, and_true]
      have hf := hS1 (by rw [hy, Bool.and_false])
      exact hf
    | true =>
      obtain ⟨b, -, hb, rfl⟩ := rg_of hy (by omega) (by omega)
      have hy2 := hy
      unfold rgc at hy2
      rw [nI_l (by omega)] at hy2
      cases hz : rgc 0 40 z with
      | false =>
        have hz2 := hz
        unfold rgc at hz2
        refine px_runG (h - 1) ck_128 [(2, S_within)] [(47, (fun _ _ _ => False))] 24 hC (px_sp1 (m_within ht (by omega)) px_nosp) (by omega) (px_cut1 (fun _ _ _ hz => hz.elim) px_nocut) (fun G Jf hG hJf => ?_)
        simp only [↓hG, ↓hJf, ↓px_go, ↓px_vc, ↓px_ex, ↓px_jp, ↓px_gi, ↓px_gl, ↓px_gr, ↓px_s1, ↓px_s2, ↓px_nl, ↓px_i1, ↓px_l1, ↓px_r1, ↓px_q1, ↓px_i2, ↓px_l2, ↓px_il, ↓px_d0, ↓px_d1, ↓px_d2, ↓px_pop, px_sz, ↓px_sp, ↓px_obj, ↓px_arr, ↓px_rd, ↓px_pt, ↓px_rok, ↓px_rv, ↓px_fill, ↓px_sl, ↓px_li, ↓px_l0, ↓px_lw, ↓px_lc, px_wi, px_wl, px_wr, px_up_at, lc_lt, lc_ge, lc_gt, lc_le, lc_eq, ↓reduceIte, Nat.reduceEqDiff, Nat.reduceLeDiff, Nat.reduceAdd, Nat.reduceSub, reduceCtorEq, List.length_cons, List.length_nil, Option.toList_some, Option.toList_none, List.cons_append, List.nil_append, true_and, and_true, false_and, and_false, true_or, or_true, false_or, or_false, and_self, or_self, not_false_eq_true, not_true_eq_false, false_implies, forall_const, true_implies, ↓bk_128, ↓pn_i128, ↓S_within, mt_0 ht]
        try simp (disch := omega) only [true_and, and_true, mb_bit, mb_house, bcI_eq, px_up_row, ni_divL, ni_subL, nI_add, pk_mul, nI_leI, nI_ltI, nI_eq, vp_in_eq, nI_clamp, fa_and, fa_or, ni_bit1, ni_1s, nI_l, mb_eq0, mb_ne0, mb_eq1, hx2, hy2, hz2]
        try simp only [Bool.true_eq_false, Bool.false_eq_true, reduceCtorEq, not_true_eq_false, not_false_eq_true, false_implies, true_implies, forall_const, and_self, true_and, and_true]
        exact hS2 hx hy hz
      | true =>
        obtain ⟨n, -, hn, rfl⟩ := rg_of hz (by omega) (by omega)
        have hz2 := hz
        unfold rgc at hz2
        rw [nI_l (by omega)] at hz2
        have lp := px_loop (C := C) (k := k) (pc := 64) (I_numb a b n σ) n (fun j ls τ hj hI hn2 => by
          obtain ⟨rfl, hfr, hrow⟩ := hI
          have hR' : mt_R τ.2.2 := by rw [hfr.2.2]; exact hR
          refine px_runG (h - 1) ck_128 [] [(64, px_li (I_numb a b n σ) j n)] 24 hC px_nosp (by omega) (px_cut1 (px_li_ok hn2) px_nocut) (fun G Jf hG hJf => ?_)
          simp only [↓hG, ↓hJf, ↓px_go, ↓px_vc, ↓px_ex, ↓px_jp, ↓px_gi, ↓px_gl, ↓px_gr, ↓px_s1, ↓px_s2, ↓px_nl, ↓px_i1, ↓px_l1, ↓px_r1, ↓px_q1, ↓px_i2, ↓px_l2, ↓px_il, ↓px_d0, ↓px_d1, ↓px_d2, ↓px_pop, px_sz, ↓px_sp, ↓px_obj, ↓px_arr, ↓px_rd, ↓px_pt, ↓px_rok, ↓px_rv, ↓px_fill, ↓px_sl, ↓px_li, ↓px_l0, ↓px_lw, ↓px_lc, px_wi, px_wl, px_wr, px_up_at, lc_lt, lc_ge, lc_gt, lc_le, lc_eq, ↓reduceIte, Nat.reduceEqDiff, Nat.reduceLeDiff, Nat.reduceAdd, Nat.reduceSub, reduceCtorEq, List.length_cons, List.length_nil, Option.toList_some, Option.toList_none, List.cons_append, List.nil_append, true_and, and_true, false_and, and_false, true_or, or_true, false_or, or_false, and_self, or_self, not_false_eq_true, not_true_eq_false, false_implies, forall_const, true_implies, ↓bk_128, ↓pn_i128, I_numb, mt_0 ht, mt_37 ht, mr_37 hR']
          try simp (disch := omega) only [true_and, and_true, mb_bit, mb_house, bcI_eq, px_up_row, ni_divL, ni_subL, nI_add, pk_mul, nI_leI, nI_ltI, nI_eq, vp_in_eq, nI_clamp, fa_and, fa_or, ni_bit1, ni_1s, nI_l, mb_eq0, mb_ne0, mb_eq1, up_rowl]
          try simp only [Bool.true_eq_false, Bool.false_eq_true, reduceCtorEq, not_true_eq_false, not_false_eq_true, false_implies, true_implies, forall_const, and_self, true_and, and_true]
          refine ⟨fun q => ?_, fun q => ⟨by omega, by omega, frl_up hfr _ _, ?_⟩⟩
          · have : j = n := by omega
            subst this
            exact hS3 a b j τ ha hb hn rfl rfl rfl hfr hrow
          · rw [hrow, zf_s])
        refine px_runG (h - 1) ck_128 [(2, S_within)] [(64, px_l0 (I_numb a b n σ))] 24 hC (px_sp1 (m_within ht (by omega)) px_nosp) (by omega) (px_cut1 (px_l0_ok lp) px_nocut) (fun G Jf hG hJf => ?_)
        simp only [↓hG, ↓hJf, ↓px_go, ↓px_vc, ↓px_ex, ↓px_jp, ↓px_gi, ↓px_gl, ↓px_gr, ↓px_s1, ↓px_s2, ↓px_nl, ↓px_i1, ↓px_l1, ↓px_r1, ↓px_q1, ↓px_i2, ↓px_l2, ↓px_il, ↓px_d0, ↓px_d1, ↓px_d2, ↓px_pop, px_sz, ↓px_sp, ↓px_obj, ↓px_arr, ↓px_rd, ↓px_pt, ↓px_rok, ↓px_rv, ↓px_fill, ↓px_sl, ↓px_li, ↓px_l0, ↓px_lw, ↓px_lc, px_wi, px_wl, px_wr, px_up_at, lc_lt, lc_ge, lc_gt, lc_le, lc_eq, ↓reduceIte, Nat.reduceEqDiff, Nat.reduceLeDiff, Nat.reduceAdd, Nat.reduceSub, reduceCtorEq, List.length_cons, List.length_nil, Option.toList_some, Option.toList_none, List.cons_append, List.nil_append, true_and, and_true, false_and, and_false, true_or, or_true, false_or, or_false, and_self, or_self, not_false_eq_true, not_true_eq_false, false_implies, forall_const, true_implies, ↓bk_128, ↓pn_i128, ↓S_within, I_numb, mt_0 ht, mt_35 ht, mt_36 ht, mr_35 hR, mr_36 hR]
        try simp (disch := omega) only [true_and, and_true, mb_bit, mb_house, bcI_eq, px_up_row, ni_divL, ni_subL, nI_add, pk_mul, nI_leI, nI_ltI, nI_eq, vp_in_eq, nI_clamp, fa_and, fa_or, ni_bit1, ni_1s, nI_l, mb_eq0, mb_ne0, mb_eq1, hx2, hy2, hz2]
        try simp only [Bool.true_eq_false, Bool.false_eq_true, reduceCtorEq, not_true_eq_false, not_false_eq_true, false_implies, true_implies, forall_const, and_self, true_and, and_true]
        exact ⟨by omega, by omega, frl_rf _ _, (zf_0 _ _).symm⟩
