/-! the model: what changes a town -/
theorem vp_mono {x : Int32} {n m : Nat} (h : vp_in x n) (hnm : n ≤ m) : vp_in x m := by
  rw [vp_in_iff] at h ⊢; omega
def S_joins : px_S := fun av σ k => match av with
  | [.inr (.inr (some l)), .inl x, .inl y] => (l = 1 ∨ l = 4) ∧ vp_in (nI 2 + x) 1072 ∧ vp_in (nI 2 + y) 1072 ∧ k none (px_wi (px_wi σ l (nI 2 + x).toNatClampNeg (σ.1 l (nI 2 + x).toNatClampNeg ||| (nI 1 <<< (y &&& 31)))) l (nI 2 + y).toNatClampNeg ((if (nI 2 + y).toNatClampNeg = (nI 2 + x).toNatClampNeg then σ.1 l (nI 2 + x).toNatClampNeg ||| (nI 1 <<< (y &&& 31)) else σ.1 l (nI 2 + y).toNatClampNeg) ||| (nI 1 <<< (x &&& 31))))
  | _ => False
theorem S_joins_sp {av : List px_V} {σ : px_M} {k : Option px_V → px_M → Prop} (h : S_joins av σ k) : ∃ l x y, av = [.inr (.inr (some l)), .inl x, .inl y] ∧ ((l = 1 ∨ l = 4) ∧ vp_in (nI 2 + x) 1072 ∧ vp_in (nI 2 + y) 1072 ∧ k none (px_wi (px_wi σ l (nI 2 + x).toNatClampNeg (σ.1 l (nI 2 + x).toNatClampNeg ||| (nI 1 <<< (y &&& 31)))) l (nI 2 + y).toNatClampNeg ((if (nI 2 + y).toNatClampNeg = (nI 2 + x).toNatClampNeg then σ.1 l (nI 2 + x).toNatClampNeg ||| (nI 1 <<< (y &&& 31)) else σ.1 l (nI 2 + y).toNatClampNeg) ||| (nI 1 <<< (x &&& 31))))) := by
  unfold S_joins at h
  split at h
  · exact ⟨_, _, _, rfl, h⟩
  · exact h.elim
set_option maxHeartbeats 4000000 in
set_option maxRecDepth 100000 in
theorem m_joins {tab : px_T} (ht : mt_ok tab) {h : Nat} (hh : 1 ≤ h) : px_Ok tab pn_i15 h S_joins := by
  refine px_mth ht.1 (by decide +kernel) (fun av σ k hS => by obtain ⟨l, x, y, rfl, hl, h1, h2, hS⟩ := S_joins_sp hS; exact Nat.le_of_ble_eq_true rfl) (fun C hT hC av σ k hS => ?_)
  replace hS := S_joins_sp hS
  obtain ⟨l, x, y, rfl, hl, h1, h2, hS⟩ := hS
  subst hT
  rcases hl with rfl | rfl
  ·
    refine px_runG (h - 1) ck_15 [] [] 24 hC px_nosp (by omega) px_nocut (fun G Jf hG hJf => ?_)
    simp only [↓hG, ↓hJf, ↓px_go, ↓px_vc, ↓px_ex, ↓px_jp, ↓px_gi, ↓px_gl, ↓px_gr, ↓px_s1, ↓px_s2, ↓px_nl, ↓px_i1, ↓px_l1, ↓px_r1, ↓px_q1, ↓px_i2, ↓px_l2, ↓px_il, ↓px_d0, ↓px_d1, ↓px_d2, ↓px_pop, px_sz, ↓px_sp, ↓px_obj, ↓px_arr, ↓px_rd, ↓px_pt, ↓px_rok, ↓px_rv, ↓px_fill, ↓px_sl, ↓px_li, ↓px_l0, ↓px_lw, ↓px_lc, px_wi, px_wl, px_wr, px_up_at, lc_lt, lc_ge, lc_gt, lc_le, lc_eq, ↓reduceIte, Nat.reduceEqDiff, Nat.reduceLeDiff, Nat.reduceAdd, Nat.reduceSub, reduceCtorEq, List.length_cons, List.length_nil, Option.toList_some, Option.toList_none, List.cons_append, List.nil_append, true_and, and_true, false_and, and_false, true_or, or_true, false_or, or_false, and_self, or_self, not_false_eq_true, not_true_eq_false, false_implies, forall_const, true_implies, ↓bk_15, ↓pn_i15, mt_1 ht]
    exact ⟨vp_mono h1 (by omega), vp_mono h1 (by omega), vp_mono h2 (by omega), vp_mono h2 (by omega), hS⟩
  ·
    refine px_runG (h - 1) ck_15 [] [] 24 hC px_nosp (by omega) px_nocut (fun G Jf hG hJf => ?_)
    simp only [↓hG, ↓hJf, ↓px_go, ↓px_vc, ↓px_ex, ↓px_jp, ↓px_gi, ↓px_gl, ↓px_gr, ↓px_s1, ↓px_s2, ↓px_nl, ↓px_i1, ↓px_l1, ↓px_r1, ↓px_q1, ↓px_i2, ↓px_l2, ↓px_il, ↓px_d0, ↓px_d1, ↓px_d2, ↓px_pop, px_sz, ↓px_sp, ↓px_obj, ↓px_arr, ↓px_rd, ↓px_pt, ↓px_rok, ↓px_rv, ↓px_fill, ↓px_sl, ↓px_li, ↓px_l0, ↓px_lw, ↓px_lc, px_wi, px_wl, px_wr, px_up_at, lc_lt, lc_ge, lc_gt, lc_le, lc_eq, ↓reduceIte, Nat.reduceEqDiff, Nat.reduceLeDiff, Nat.reduceAdd, Nat.reduceSub, reduceCtorEq, List.length_cons, List.length_nil, Option.toList_some, Option.toList_none, List.cons_append, List.nil_append, true_and, and_true, false_and, and_false, true_or, or_true, false_or, or_false, and_self, or_self, not_false_eq_true, not_true_eq_false, false_implies, forall_const, true_implies, ↓bk_15, ↓pn_i15, mt_4 ht]
    exact ⟨h1, h1, h2, h2, hS⟩
def S_walls : px_S := fun av σ k => match av with
  | [.inr (.inr (some 0)), .inl x, .inl y] => mt_R σ.2.2 ∧ vp_in (nI 2 + x) 1072 ∧ vp_in (nI 2 + y) 1072 ∧ k none (px_wi (px_wi σ 1 (nI 2 + x).toNatClampNeg (σ.1 1 (nI 2 + x).toNatClampNeg &&& ((nI 1 <<< (y &&& 31)) ^^^ (-1)))) 1 (nI 2 + y).toNatClampNeg ((if (nI 2 + y).toNatClampNeg = (nI 2 + x).toNatClampNeg then σ.1 1 (nI 2 + x).toNatClampNeg &&& ((nI 1 <<< (y &&& 31)) ^^^ (-1)) else σ.1 1 (nI 2 + y).toNatClampNeg) &&& ((nI 1 <<< (x &&& 31)) ^^^ (-1))))
  | _ => False
theorem S_walls_sp {av : List px_V} {σ : px_M} {k : Option px_V → px_M → Prop} (h : S_walls av σ k) : ∃ x y, av = [.inr (.inr (some 0)), .inl x, .inl y] ∧ (mt_R σ.2.2 ∧ vp_in (nI 2 + x) 1072 ∧ vp_in (nI 2 + y) 1072 ∧ k none (px_wi (px_wi σ 1 (nI 2 + x).toNatClampNeg (σ.1 1 (nI 2 + x).toNatClampNeg &&& ((nI 1 <<< (y &&& 31)) ^^^ (-1)))) 1 (nI 2 + y).toNatClampNeg ((if (nI 2 + y).toNatClampNeg = (nI 2 + x).toNatClampNeg then σ.1 1 (nI 2 + x).toNatClampNeg &&& ((nI 1 <<< (y &&& 31)) ^^^ (-1)) else σ.1 1 (nI 2 + y).toNatClampNeg) &&& ((nI 1 <<< (x &&& 31)) ^^^ (-1))))) := by
  unfold S_walls at h
  split at h
  · exact ⟨_, _, rfl, h⟩
  · exact h.elim
set_option maxHeartbeats 4000000 in
set_option maxRecDepth 100000 in
theorem m_walls {tab : px_T} (ht : mt_ok tab) {h : Nat} (hh : 1 ≤ h) : px_Ok tab pn_i59 h S_walls := by
  refine px_mth ht.1 (by decide +kernel) (fun av σ k hS => by obtain ⟨x, y, rfl, hR, h1, h2, hS⟩ := S_walls_sp hS; exact Nat.le_of_ble_eq_true rfl) (fun C hT hC av σ k hS => ?_)
  replace hS := S_walls_sp hS
  obtain ⟨x, y, rfl, hR, h1, h2, hS⟩ := hS
  subst hT
  refine px_runG (h - 1) ck_59 [] [] 24 hC px_nosp (by omega) px_nocut (fun G Jf hG hJf => ?_)
  simp only [↓hG, ↓hJf, ↓px_go, ↓px_vc, ↓px_ex, ↓px_jp, ↓px_gi, ↓px_gl, ↓px_gr, ↓px_s1, ↓px_s2, ↓px_nl, ↓px_i1, ↓px_l1, ↓px_r1, ↓px_q1, ↓px_i2, ↓px_l2, ↓px_il, ↓px_d0, ↓px_d1, ↓px_d2, ↓px_pop, px_sz, ↓px_sp, ↓px_obj, ↓px_arr, ↓px_rd, ↓px_pt, ↓px_rok, ↓px_rv, ↓px_fill, ↓px_sl, ↓px_li, ↓px_l0, ↓px_lw, ↓px_lc, px_wi, px_wl, px_wr, px_up_at, lc_lt, lc_ge, lc_gt, lc_le, lc_eq, ↓reduceIte, Nat.reduceEqDiff, Nat.reduceLeDiff, Nat.reduceAdd, Nat.reduceSub, reduceCtorEq, List.length_cons, List.length_nil, Option.toList_some, Option.toList_none, List.cons_append, List.nil_append, true_and, and_true, false_and, and_false, true_or, or_true, false_or, or_false, and_self, or_self, not_false_eq_true, not_true_eq_false, false_implies, forall_const, true_implies, ↓bk_59, ↓pn_i59, mt_0 ht, mt_1 ht, mr_1 hR]
  exact ⟨vp_mono h1 (by omega), vp_mono h1 (by omega), vp_mono h2 (by omega), vp_mono h2 (by omega), hS⟩
/-- keeps: the town is written beside -/
def S_keeps : px_S := fun av σ k => match av with
  | [.inr (.inr (some 0)), .inr (.inr (some l))] => mt_R σ.2.2 ∧ (l = 18 ∨ l = 20) ∧ ∀ τ, fr l σ τ → (∀ j, j < 12 → τ.1 l j = σ.1 1 (1 + j)) → k none τ
  | _ => False
theorem S_keeps_sp {av : List px_V} {σ : px_M} {k : Option px_V → px_M → Prop} (h : S_keeps av σ k) : ∃ l, av = [.inr (.inr (some 0)), .inr (.inr (some l))] ∧ (mt_R σ.2.2 ∧ (l = 18 ∨ l = 20) ∧ ∀ τ, fr l σ τ → (∀ j, j < 12 → τ.1 l j = σ.1 1 (1 + j)) → k none τ) := by
  unfold S_keeps at h
  split at h
  · exact ⟨_, rfl, h⟩
  · exact h.elim
def I_keeps (l : Nat) (σ : px_M) : Nat → px_Ls → px_M → Prop := fun j ls τ => ls = [some (.inr (.inr (some 0))), some (.inr (.inr (some l))), some (.inl (nI j))] ∧ fr l σ τ ∧ ∀ h, h < j → τ.1 l h = σ.1 1 (1 + h)
set_option maxHeartbeats 4000000 in
set_option maxRecDepth 100000 in
theorem m_keeps {tab : px_T} (ht : mt_ok tab) {h : Nat} (hh : 1 ≤ h) : px_Ok tab pn_i52 h S_keeps := by
  refine px_mth ht.1 (by decide +kernel) (fun av σ k hS => by obtain ⟨l, rfl, hR, hl, hS⟩ := S_keeps_sp hS; exact Nat.le_of_ble_eq_true rfl) (fun C hT hC av σ k hS => ?_)
  replace hS := S_keeps_sp hS
  obtain ⟨l, rfl, hR, hl, hS⟩ := hS
  subst hT
  have hlay : px_lay (px_tb C) l = some (.inr (0, 12)) := by
    rcases hl with rfl | rfl
    · exact mt_18 ht
    · exact mt_20 ht
  have hl1 : 1 ≠ l := by omega
  have lp := px_loop (C := C) (k := k) (pc := 2) (I_keeps l σ) 12 (fun j ls τ hj hI hn2 => by
    obtain ⟨rfl, hfr, hlo⟩ := hI
    have hr1 : τ.1 1 = σ.1 1 := hfr.1 1 hl1
    have hR' : mt_R τ.2.2 := by rw [hfr.2]; exact hR
    refine px_runG (h - 1) ck_52 [] [(2, px_li (I_keeps l σ) j 12)] 24 hC px_nosp (by omega) (px_cut1 (px_li_ok hn2) px_nocut) (fun G Jf hG hJf => ?_)
    simp only [↓hG, ↓hJf, ↓px_go, ↓px_vc, ↓px_ex, ↓px_jp, ↓px_gi, ↓px_gl, ↓px_gr, ↓px_s1, ↓px_s2, ↓px_nl, ↓px_i1, ↓px_l1, ↓px_r1, ↓px_q1, ↓px_i2, ↓px_l2, ↓px_il, ↓px_d0, ↓px_d1, ↓px_d2, ↓px_pop, px_sz, ↓px_sp, ↓px_obj, ↓px_arr, ↓px_rd, ↓px_pt, ↓px_rok, ↓px_rv, ↓px_fill, ↓px_sl, ↓px_li, ↓px_l0, ↓px_lw, ↓px_lc, px_wi, px_wl, px_wr, px_up_at, lc_lt, lc_ge, lc_gt, lc_le, lc_eq, ↓reduceIte, Nat.reduceEqDiff, Nat.reduceLeDiff, Nat.reduceAdd, Nat.reduceSub, reduceCtorEq, List.length_cons, List.length_nil, Option.toList_some, Option.toList_none, List.cons_append, List.nil_append, true_and, and_true, false_and, and_false, true_or, or_true, false_or, or_false, and_self, or_self, not_false_eq_true, not_true_eq_false, false_implies, forall_const, true_implies, ↓bk_52, ↓pn_i52, I_keeps, mt_0 ht, mt_1 ht, hlay, mr_1 hR']
    try simp (disch := omega) only [true_and, and_true, mb_bit, mb_house, bcI_eq, px_up_row, ni_divL, ni_subL, nI_add, pk_mul, nI_leI, nI_ltI, nI_eq, vp_in_eq, nI_clamp, fa_and, fa_or, ni_bit1, ni_1s, nI_l, mb_eq0, mb_ne0, mb_eq1, hr1]
    refine ⟨fun q => ?_, fun q => ⟨by omega, by omega, by omega, fr_up hfr _ _, fun h hh => ?_⟩⟩
    · exact hS τ hfr (fun h hh => hlo h (by omega))
    · by_cases hhj : h = j
      · subst hhj; rw [if_pos rfl]
      · rw [if_neg hhj]; exact hlo h (by omega))
  refine px_runG (h - 1) ck_52 [] [(2, px_l0 (I_keeps l σ))] 24 hC px_nosp (by omega) (px_cut1 (px_l0_ok lp) px_nocut) (fun G Jf hG hJf => ?_)
  simp only [↓hG, ↓hJf, ↓px_go, ↓px_vc, ↓px_ex, ↓px_jp, ↓px_gi, ↓px_gl, ↓px_gr, ↓px_s1, ↓px_s2, ↓px_nl, ↓px_i1, ↓px_l1, ↓px_r1, ↓px_q1, ↓px_i2, ↓px_l2, ↓px_il, ↓px_d0, ↓px_d1, ↓px_d2, ↓px_pop, px_sz, ↓px_sp, ↓px_obj, ↓px_arr, ↓px_rd, ↓px_pt, ↓px_rok, ↓px_rv, ↓px_fill, ↓px_sl, ↓px_li, ↓px_l0, ↓px_lw, ↓px_lc, px_wi, px_wl, px_wr, px_up_at, lc_lt, lc_ge, lc_gt, lc_le, lc_eq, ↓reduceIte, Nat.reduceEqDiff, Nat.reduceLeDiff, Nat.reduceAdd, Nat.reduceSub, reduceCtorEq, List.length_cons, List.length_nil, Option.toList_some, Option.toList_none, List.cons_append, List.nil_append, true_and, and_true, false_and, and_false, true_or, or_true, false_or, or_false, and_self, or_self, not_false_eq_true, not_true_eq_false, false_implies, forall_const, true_implies, ↓bk_52, ↓pn_i52, I_keeps]
  try simp (disch := omega) only [true_and, and_true, mb_bit, mb_house, bcI_eq, px_up_row, ni_divL, ni_subL, nI_add, pk_mul, nI_leI, nI_ltI, nI_eq, vp_in_eq, nI_clamp, fa_and, fa_or, ni_bit1, ni_1s, nI_l, mb_eq0, mb_ne0, mb_eq1]
  exact ⟨fr_rf l σ, fun h hh => absurd hh (by omega)⟩
/-- isAgain: and read again -/
def S_isAgain : px_S := fun av σ k => match av with
  | [.inr (.inr (some 0)), .inr (.inr (some l))] => mt_R σ.2.2 ∧ (l = 18 ∨ l = 20) ∧ ∀ τ, fr 1 σ τ → (∀ j, j < 12 → τ.1 1 (1 + j) = σ.1 l j) → (∀ i, ¬ (1 ≤ i ∧ i < 13) → τ.1 1 i = σ.1 1 i) → k none τ
  | _ => False
theorem S_isAgain_sp {av : List px_V} {σ : px_M} {k : Option px_V → px_M → Prop} (h : S_isAgain av σ k) : ∃ l, av = [.inr (.inr (some 0)), .inr (.inr (some l))] ∧ (mt_R σ.2.2 ∧ (l = 18 ∨ l = 20) ∧ ∀ τ, fr 1 σ τ → (∀ j, j < 12 → τ.1 1 (1 + j) = σ.1 l j) → (∀ i, ¬ (1 ≤ i ∧ i < 13) → τ.1 1 i = σ.1 1 i) → k none τ) := by
  unfold S_isAgain at h
  split at h
  · exact ⟨_, rfl, h⟩
  · exact h.elim
def I_isAgain (l : Nat) (σ : px_M) : Nat → px_Ls → px_M → Prop := fun j ls τ => ls = [some (.inr (.inr (some 0))), some (.inr (.inr (some l))), some (.inl (nI j))] ∧ fr 1 σ τ ∧ (∀ h, h < j → τ.1 1 (1 + h) = σ.1 l h) ∧ ∀ i, ¬ (1 ≤ i ∧ i < 13) → τ.1 1 i = σ.1 1 i
set_option maxHeartbeats 4000000 in
set_option maxRecDepth 100000 in
theorem m_isAgain {tab : px_T} (ht : mt_ok tab) {h : Nat} (hh : 1 ≤ h) : px_Ok tab pn_i53 h S_isAgain := by
  refine px_mth ht.1 (by decide +kernel) (fun av σ k hS => by obtain ⟨l, rfl, hR, hl, hS⟩ := S_isAgain_sp hS; exact Nat.le_of_ble_eq_true rfl) (fun C hT hC av σ k hS => ?_)
  replace hS := S_isAgain_sp hS
  obtain ⟨l, rfl, hR, hl, hS⟩ := hS
  subst hT
  have hlay : px_lay (px_tb C) l = some (.inr (0, 12)) := by
    rcases hl with rfl | rfl
    · exact mt_18 ht
    · exact mt_20 ht
  have hl1 : l ≠ 1 := by omega
  have lp := px_loop (C := C) (k := k) (pc := 2) (I_isAgain l σ) 12 (fun j ls τ hj hI hn2 => by
    obtain ⟨rfl, hfr, hlo, hot⟩ := hI
    have hrl : τ.1 l = σ.1 l := hfr.1 l hl1
    have hR' : mt_R τ.2.2 := by rw [hfr.2]; exact hR
    refine px_runG (h - 1) ck_53 [] [(2, px_li (I_isAgain l σ) j 12)] 24 hC px_nosp (by omega) (px_cut1 (px_li_ok hn2) px_nocut) (fun G Jf hG hJf => ?_)
    simp only [↓hG, ↓hJf, ↓px_go, ↓px_vc, ↓px_ex, ↓px_jp, ↓px_gi, ↓px_gl, ↓px_gr, ↓px_s1, ↓px_s2, ↓px_nl, ↓px_i1, ↓px_l1, ↓px_r1, ↓px_q1, ↓px_i2, ↓px_l2, ↓px_il, ↓px_d0, ↓px_d1, ↓px_d2, ↓px_pop, px_sz, ↓px_sp, ↓px_obj, ↓px_arr, ↓px_rd, ↓px_pt, ↓px_rok, ↓px_rv, ↓px_fill, ↓px_sl, ↓px_li, ↓px_l0, ↓px_lw, ↓px_lc, px_wi, px_wl, px_wr, px_up_at, lc_lt, lc_ge, lc_gt, lc_le, lc_eq, ↓reduceIte, Nat.reduceEqDiff, Nat.reduceLeDiff, Nat.reduceAdd, Nat.reduceSub, reduceCtorEq, List.length_cons, List.length_nil, Option.toList_some, Option.toList_none, List.cons_append, List.nil_append, true_and, and_true, false_and, and_false, true_or, or_true, false_or, or_false, and_self, or_self, not_false_eq_true, not_true_eq_false, false_implies, forall_const, true_implies, ↓bk_53, ↓pn_i53, I_isAgain, mt_0 ht, mt_1 ht, hlay, mr_1 hR']
    try simp (disch := omega) only [true_and, and_true, mb_bit, mb_house, bcI_eq, px_up_row, ni_divL, ni_subL, nI_add, pk_mul, nI_leI, nI_ltI, nI_eq, vp_in_eq, nI_clamp, fa_and, fa_or, ni_bit1, ni_1s, nI_l, mb_eq0, mb_ne0, mb_eq1, hrl]
    refine ⟨fun q => ?_, fun q => ⟨by omega, by omega, by omega, fr_up hfr _ _, fun h hh => ?_, fun i hi => ?_⟩⟩
    · exact hS τ hfr (fun h hh => hlo h (by omega)) hot
    · by_cases hhj : h = j
      · subst hhj; rw [if_pos rfl]
      · rw [if_neg (by omega)]; exact hlo h (by omega)
    · rw [if_neg (by omega)]; exact hot i hi)
  refine px_runG (h - 1) ck_53 [] [(2, px_l0 (I_isAgain l σ))] 24 hC px_nosp (by omega) (px_cut1 (px_l0_ok lp) px_nocut) (fun G Jf hG hJf => ?_)
  simp only [↓hG, ↓hJf, ↓px_go, ↓px_vc, ↓px_ex, ↓px_jp, ↓px_gi, ↓px_gl, ↓px_gr, ↓px_s1, ↓px_s2, ↓px_nl, ↓px_i1, ↓px_l1, ↓px_r1, ↓px_q1, ↓px_i2, ↓px_l2, ↓px_il, ↓px_d0, ↓px_d1, ↓px_d2, ↓px_pop, px_sz, ↓px_sp, ↓px_obj, ↓px_arr, ↓px_rd, ↓px_pt, ↓px_rok, ↓px_rv, ↓px_fill, ↓px_sl, ↓px_li, ↓px_l0, ↓px_lw, ↓px_lc, px_wi, px_wl, px_wr, px_up_at, lc_lt, lc_ge, lc_gt, lc_le, lc_eq, ↓reduceIte, Nat.reduceEqDiff, Nat.reduceLeDiff, Nat.reduceAdd, Nat.reduceSub, reduceCtorEq, List.length_cons, List.length_nil, Option.toList_some, Option.toList_none, List.cons_append, List.nil_append, true_and, and_true, false_and, and_false, true_or, or_true, false_or, or_false, and_self, or_self, not_false_eq_true, not_true_eq_false, false_implies, forall_const, true_implies, ↓bk_53, ↓pn_i53, I_isAgain]
  try simp (disch := omega) only [true_and, and_true, mb_bit, mb_house, bcI_eq, px_up_row, ni_divL, ni_subL, nI_add, pk_mul, nI_leI, nI_ltI, nI_eq, vp_in_eq, nI_clamp, fa_and, fa_or, ni_bit1, ni_1s, nI_l, mb_eq0, mb_ne0, mb_eq1]
  exact ⟨fr_rf 1 σ, fun h hh => absurd hh (by omega), fun _ _ => trivial⟩
/-- the row of a town in which two are joined, or walled -/
def rj (r : Nat → Int32) (a b : Nat) : Nat → Int32 := fun i => if i = 2 + b then nI (tB r b ||| 2 ^ a) else if i = 2 + a then nI (tB r a ||| 2 ^ b) else r i
def rw_ (r : Nat → Int32) (a b : Nat) : Nat → Int32 := fun i => if i = 2 + b then nI (nd (tB r b) (2 ^ a)) else if i = 2 + a then nI (nd (tB r a) (2 ^ b)) else r i
theorem jn_row {I : Nat → Nat → Int32} {a b : Nat} (ht : tok (I 1)) (ha : a < 11) (hb : b < 11) (hab : a ≠ b) : px_up (px_up I 1 (nI 2 + nI a).toNatClampNeg (I 1 (nI 2 + nI a).toNatClampNeg ||| (nI 1 <<< (nI b &&& 31)))) 1 (nI 2 + nI b).toNatClampNeg ((if (nI 2 + nI b).toNatClampNeg = (nI 2 + nI a).toNatClampNeg then I 1 (nI 2 + nI a).toNatClampNeg ||| (nI 1 <<< (nI b &&& 31)) else I 1 (nI 2 + nI b).toNatClampNeg) ||| (nI 1 <<< (nI a &&& 31))) 1 = rj (I 1) a b := by
  obtain ⟨hn, h1, hnb, hlt⟩ := ht
  rw [nI_add, nI_add, nI_clamp (by omega), nI_clamp (by omega), if_neg (by omega), hnb a ha, hnb b hb, ni_1s (by omega), ni_1s (by omega), fa_or, fa_or]
  funext i
  simp only [px_up, rj, true_and]
theorem wl_row {I : Nat → Nat → Int32} {a b : Nat} (ht : tok (I 1)) (ha : a < 11) (hb : b < 11) (hab : a ≠ b) : px_up (px_up I 1 (nI 2 + nI a).toNatClampNeg (I 1 (nI 2 + nI a).toNatClampNeg &&& ((nI 1 <<< (nI b &&& 31)) ^^^ (-1)))) 1 (nI 2 + nI b).toNatClampNeg ((if (nI 2 + nI b).toNatClampNeg = (nI 2 + nI a).toNatClampNeg then I 1 (nI 2 + nI a).toNatClampNeg &&& ((nI 1 <<< (nI b &&& 31)) ^^^ (-1)) else I 1 (nI 2 + nI b).toNatClampNeg) &&& ((nI 1 <<< (nI a &&& 31)) ^^^ (-1))) 1 = rw_ (I 1) a b := by
  obtain ⟨hn, h1, hnb, hlt⟩ := ht
  rw [nI_add, nI_add, nI_clamp (by omega), nI_clamp (by omega), if_neg (by omega), hnb a ha, hnb b hb, ni_1s (by omega), ni_1s (by omega), ni_nd (hlt a ha), ni_nd (hlt b hb)]
  funext i
  simp only [px_up, rw_, true_and]
theorem rj_N (r : Nat → Int32) (a b : Nat) : tN (rj r a b) = tN r := by
  unfold tN rj
  rw [if_neg (by omega), if_neg (by omega)]
theorem rj_B {r : Nat → Int32} {a b : Nat} (ht : tok r) (ha : a < 11) (hb : b < 11) (h : Nat) : tB (rj r a b) h = if h = b then tB r b ||| 2 ^ a else if h = a then tB r a ||| 2 ^ b else tB r h := by
  obtain ⟨-, -, -, hlt⟩ := ht
  have l1 : tB r b ||| 2 ^ a < 2048 := or_lt (hlt b hb) (pw_lt ha)
  have l2 : tB r a ||| 2 ^ b < 2048 := or_lt (hlt a ha) (pw_lt hb)
  show (rj r a b (2 + h)).toNatClampNeg = _
  unfold rj
  by_cases h1 : h = b
  · rw [if_pos (by omega), if_pos h1, nI_clamp (by omega)]
  · rw [if_neg (by omega), if_neg h1]
    by_cases h2 : h = a
    · rw [if_pos (by omega), if_pos h2, nI_clamp (by omega)]
    · rw [if_neg (by omega), if_neg h2]; rfl
theorem rj_ok {r : Nat → Int32} {a b : Nat} (ht : tok r) (ha : a < 11) (hb : b < 11) : tok (rj r a b) := by
  obtain ⟨hn, h1, hnb, hlt⟩ := id ht
  refine ⟨by rw [rj_N]; exact hn, ?_, fun h hh => ?_, fun h hh => ?_⟩
  · rw [rj_N]; unfold rj; rw [if_neg (by omega), if_neg (by omega)]; exact h1
  · rw [rj_B ht ha hb]
    unfold rj
    by_cases q1 : h = b
    · rw [if_pos (by omega), if_pos q1]
    · rw [if_neg (by omega), if_neg q1]
      by_cases q2 : h = a
      · rw [if_pos (by omega), if_pos q2]
      · rw [if_neg (by omega), if_neg q2]; exact hnb h hh
  · rw [rj_B ht ha hb]
    split
    · exact or_lt (hlt b hb) (pw_lt ha)
    · split
      · exact or_lt (hlt a ha) (pw_lt hb)
      · exact hlt h hh
theorem rw_N (r : Nat → Int32) (a b : Nat) : tN (rw_ r a b) = tN r := by
  unfold tN rw_
  rw [if_neg (by omega), if_neg (by omega)]
theorem rw_B {r : Nat → Int32} {a b : Nat} (ht : tok r) (ha : a < 11) (hb : b < 11) (h : Nat) : tB (rw_ r a b) h = if h = b then nd (tB r b) (2 ^ a) else if h = a then nd (tB r a) (2 ^ b) else tB r h := by
  obtain ⟨-, -, -, hlt⟩ := ht
  have l1 : nd (tB r b) (2 ^ a) < 2048 := nd_lt (hlt b hb)
  have l2 : nd (tB r a) (2 ^ b) < 2048 := nd_lt (hlt a ha)
  show (rw_ r a b (2 + h)).toNatClampNeg = _
  unfold rw_
  by_cases h1 : h = b
  · rw [if_pos (by omega), if_pos h1, nI_clamp (by omega)]
  · rw [if_neg (by omega), if_neg h1]
    by_cases h2 : h = a
    · rw [if_pos (by omega), if_pos h2, nI_clamp (by omega)]
    · rw [if_neg (by omega), if_neg h2]; rfl
theorem rw_ok {r : Nat → Int32} {a b : Nat} (ht : tok r) (ha : a < 11) (hb : b < 11) : tok (rw_ r a b) := by
  obtain ⟨hn, h1, hnb, hlt⟩ := id ht
  refine ⟨by rw [rw_N]; exact hn, ?_, fun h hh => ?_, fun h hh => ?_⟩
  · rw [rw_N]; unfold rw_; rw [if_neg (by omega), if_neg (by omega)]; exact h1
  · rw [rw_B ht ha hb]
    unfold rw_
    by_cases q1 : h = b
    · rw [if_pos (by omega), if_pos q1]
    · rw [if_neg (by omega), if_neg q1]
      by_cases q2 : h = a
      · rw [if_pos (by omega), if_pos q2]
      · rw [if_neg (by omega), if_neg q2]; exact hnb h hh
  · rw [rw_B ht ha hb]
    split
    · exact nd_lt (hlt b hb)
    · split
      · exact nd_lt (hlt a ha)
      · exact hlt h hh
