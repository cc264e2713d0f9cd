/-! the model's leaves -/
/-- the model's cells: label 0 the object, label s the array of its slot s -/
def mt_tab : px_T := [(0, .inl 0), (1, .inr (0, 3216)), (2, .inr (2, 2)), (3, .inr (0, 900)), (4, .inr (0, 1072)), (15, .inr (0, 11)), (16, .inr (0, 11)), (17, .inr (0, 900)), (18, .inr (0, 12)), (19, .inr (0, 11)), (20, .inr (0, 12)), (23, .inr (3, 2048)), (24, .inr (3, 2048)), (25, .inr (2, 2048)), (26, .inr (2, 2048)), (27, .inr (0, 11)), (28, .inr (0, 11)), (31, .inr (0, 6)), (35, .inr (0, 4)), (36, .inr (0, 4)), (37, .inr (3, 160))]
def mt_ok (tab : px_T) : Prop := (tab.map Prod.fst).Nodup ∧ ∀ q ∈ mt_tab, px_lay tab q.1 = some q.2
/-- the object's references -/
def mt_R (R : Nat → Nat → Option Nat) : Prop := ∀ q ∈ mt_tab, 0 < q.1 → R 0 q.1 = some q.1
theorem mt_0 {tab : px_T} (h : mt_ok tab) : px_lay tab 0 = some (.inl 0) := h.2 (0, .inl 0) (by simp [mt_tab])
theorem mt_1 {tab : px_T} (h : mt_ok tab) : px_lay tab 1 = some (.inr (0, 3216)) := h.2 (1, .inr (0, 3216)) (by simp [mt_tab])
theorem mr_1 {R : Nat → Nat → Option Nat} (h : mt_R R) : R 0 1 = some 1 := h (1, .inr (0, 3216)) (by simp [mt_tab]) (by decide)
theorem mt_2 {tab : px_T} (h : mt_ok tab) : px_lay tab 2 = some (.inr (2, 2)) := h.2 (2, .inr (2, 2)) (by simp [mt_tab])
theorem mr_2 {R : Nat → Nat → Option Nat} (h : mt_R R) : R 0 2 = some 2 := h (2, .inr (2, 2)) (by simp [mt_tab]) (by decide)
theorem mt_3 {tab : px_T} (h : mt_ok tab) : px_lay tab 3 = some (.inr (0, 900)) := h.2 (3, .inr (0, 900)) (by simp [mt_tab])
theorem mr_3 {R : Nat → Nat → Option Nat} (h : mt_R R) : R 0 3 = some 3 := h (3, .inr (0, 900)) (by simp [mt_tab]) (by decide)
theorem mt_4 {tab : px_T} (h : mt_ok tab) : px_lay tab 4 = some (.inr (0, 1072)) := h.2 (4, .inr (0, 1072)) (by simp [mt_tab])
theorem mr_4 {R : Nat → Nat → Option Nat} (h : mt_R R) : R 0 4 = some 4 := h (4, .inr (0, 1072)) (by simp [mt_tab]) (by decide)
theorem mt_15 {tab : px_T} (h : mt_ok tab) : px_lay tab 15 = some (.inr (0, 11)) := h.2 (15, .inr (0, 11)) (by simp [mt_tab])
theorem mr_15 {R : Nat → Nat → Option Nat} (h : mt_R R) : R 0 15 = some 15 := h (15, .inr (0, 11)) (by simp [mt_tab]) (by decide)
theorem mt_16 {tab : px_T} (h : mt_ok tab) : px_lay tab 16 = some (.inr (0, 11)) := h.2 (16, .inr (0, 11)) (by simp [mt_tab])
theorem mr_16 {R : Nat → Nat → Option Nat} (h : mt_R R) : R 0 16 = some 16 := h (16, .inr (0, 11)) (by simp [mt_tab]) (by decide)
theorem mt_17 {tab : px_T} (h : mt_ok tab) : px_lay tab 17 = some (.inr (0, 900)) := h.2 (17, .inr (0, 900)) (by simp [mt_tab])
theorem mr_17 {R : Nat → Nat → Option Nat} (h : mt_R R) : R 0 17 = some 17 := h (17, .inr (0, 900)) (by simp [mt_tab]) (by decide)
theorem mt_18 {tab : px_T} (h : mt_ok tab) : px_lay tab 18 = some (.inr (0, 12)) := h.2 (18, .inr (0, 12)) (by simp [mt_tab])
theorem mr_18 {R : Nat → Nat → Option Nat} (h : mt_R R) : R 0 18 = some 18 := h (18, .inr (0, 12)) (by simp [mt_tab]) (by decide)
theorem mt_19 {tab : px_T} (h : mt_ok tab) : px_lay tab 19 = some (.inr (0, 11)) := h.2 (19, .inr (0, 11)) (by simp [mt_tab])
theorem mr_19 {R : Nat → Nat → Option Nat} (h : mt_R R) : R 0 19 = some 19 := h (19, .inr (0, 11)) (by simp [mt_tab]) (by decide)
theorem mt_20 {tab : px_T} (h : mt_ok tab) : px_lay tab 20 = some (.inr (0, 12)) := h.2 (20, .inr (0, 12)) (by simp [mt_tab])
theorem mr_20 {R : Nat → Nat → Option Nat} (h : mt_R R) : R 0 20 = some 20 := h (20, .inr (0, 12)) (by simp [mt_tab]) (by decide)
theorem mt_23 {tab : px_T} (h : mt_ok tab) : px_lay tab 23 = some (.inr (3, 2048)) := h.2 (23, .inr (3, 2048)) (by simp [mt_tab])
theorem mr_23 {R : Nat → Nat → Option Nat} (h : mt_R R) : R 0 23 = some 23 := h (23, .inr (3, 2048)) (by simp [mt_tab]) (by decide)
theorem mt_24 {tab : px_T} (h : mt_ok tab) : px_lay tab 24 = some (.inr (3, 2048)) := h.2 (24, .inr (3, 2048)) (by simp [mt_tab])
theorem mr_24 {R : Nat → Nat → Option Nat} (h : mt_R R) : R 0 24 = some 24 := h (24, .inr (3, 2048)) (by simp [mt_tab]) (by decide)
theorem mt_25 {tab : px_T} (h : mt_ok tab) : px_lay tab 25 = some (.inr (2, 2048)) := h.2 (25, .inr (2, 2048)) (by simp [mt_tab])
theorem mr_25 {R : Nat → Nat → Option Nat} (h : mt_R R) : R 0 25 = some 25 := h (25, .inr (2, 2048)) (by simp [mt_tab]) (by decide)
theorem mt_26 {tab : px_T} (h : mt_ok tab) : px_lay tab 26 = some (.inr (2, 2048)) := h.2 (26, .inr (2, 2048)) (by simp [mt_tab])
theorem mr_26 {R : Nat → Nat → Option Nat} (h : mt_R R) : R 0 26 = some 26 := h (26, .inr (2, 2048)) (by simp [mt_tab]) (by decide)
theorem mt_27 {tab : px_T} (h : mt_ok tab) : px_lay tab 27 = some (.inr (0, 11)) := h.2 (27, .inr (0, 11)) (by simp [mt_tab])
theorem mr_27 {R : Nat → Nat → Option Nat} (h : mt_R R) : R 0 27 = some 27 := h (27, .inr (0, 11)) (by simp [mt_tab]) (by decide)
theorem mt_28 {tab : px_T} (h : mt_ok tab) : px_lay tab 28 = some (.inr (0, 11)) := h.2 (28, .inr (0, 11)) (by simp [mt_tab])
theorem mr_28 {R : Nat → Nat → Option Nat} (h : mt_R R) : R 0 28 = some 28 := h (28, .inr (0, 11)) (by simp [mt_tab]) (by decide)
theorem mt_31 {tab : px_T} (h : mt_ok tab) : px_lay tab 31 = some (.inr (0, 6)) := h.2 (31, .inr (0, 6)) (by simp [mt_tab])
theorem mr_31 {R : Nat → Nat → Option Nat} (h : mt_R R) : R 0 31 = some 31 := h (31, .inr (0, 6)) (by simp [mt_tab]) (by decide)
theorem mt_35 {tab : px_T} (h : mt_ok tab) : px_lay tab 35 = some (.inr (0, 4)) := h.2 (35, .inr (0, 4)) (by simp [mt_tab])
theorem mr_35 {R : Nat → Nat → Option Nat} (h : mt_R R) : R 0 35 = some 35 := h (35, .inr (0, 4)) (by simp [mt_tab]) (by decide)
theorem mt_36 {tab : px_T} (h : mt_ok tab) : px_lay tab 36 = some (.inr (0, 4)) := h.2 (36, .inr (0, 4)) (by simp [mt_tab])
theorem mr_36 {R : Nat → Nat → Option Nat} (h : mt_R R) : R 0 36 = some 36 := h (36, .inr (0, 4)) (by simp [mt_tab]) (by decide)
theorem mt_37 {tab : px_T} (h : mt_ok tab) : px_lay tab 37 = some (.inr (3, 160)) := h.2 (37, .inr (3, 160)) (by simp [mt_tab])
theorem mr_37 {R : Nat → Nat → Option Nat} (h : mt_R R) : R 0 37 = some 37 := h (37, .inr (3, 160)) (by simp [mt_tab]) (by decide)
/-- the town in the model's row 1: how many houses, the neighbours of each -/
def tN (r : Nat → Int32) : Nat := (r 1).toNatClampNeg
def tB (r : Nat → Int32) (h : Nat) : Nat := (r (2 + h)).toNatClampNeg
def tok (r : Nat → Int32) : Prop := tN r ≤ 11 ∧ r 1 = nI (tN r) ∧ (∀ h, h < 11 → r (2 + h) = nI (tB r h)) ∧ ∀ h, h < 11 → tB r h < 2048
/-- within -/
def S_within : px_S := fun av σ k => match av with
  | [.inr (.inl v), .inr (.inl lo), .inr (.inl hi)] => k (some (.inl (mb (decide (lo ≤ v) && decide (v ≤ hi))))) σ
  | _ => False
theorem S_within_sp {av : List px_V} {σ : px_M} {k : Option px_V → px_M → Prop} (h : S_within av σ k) : ∃ v lo hi, av = [.inr (.inl v), .inr (.inl lo), .inr (.inl hi)] ∧ k (some (.inl (mb (decide (lo ≤ v) && decide (v ≤ hi))))) σ := by
  unfold S_within at h
  split at h
  · exact ⟨_, _, _, rfl, h⟩
  · exact h.elim
set_option maxHeartbeats 4000000 in
set_option maxRecDepth 100000 in
theorem m_within {tab : px_T} (ht : mt_ok tab) {h : Nat} (hh : 1 ≤ h) : px_Ok tab pn_i2 h S_within := by
  refine px_mth ht.1 (by decide +kernel) (fun av σ k hS => by obtain ⟨v, lo, hi, rfl, hS⟩ := S_within_sp hS; exact Nat.le_of_ble_eq_true rfl) (fun C hT hC av σ k hS => ?_)
  replace hS := S_within_sp hS
  obtain ⟨v, lo, hi, rfl, hS⟩ := hS
  subst hT
  refine px_runG (h - 1) ck_2 [] [] 24 hC px_nosp (by omega) px_nocut (fun G Jf hG hJf => ?_)
  simp only [↓hG, ↓hJf, ↓px_go, ↓px_vc, ↓px_ex, ↓px_jp, ↓px_gi, ↓px_gl, ↓px_gr, ↓px_s1, ↓px_s2, ↓px_nl, ↓px_i1, ↓px_l1, ↓px_r1, ↓px_q1, ↓px_i2, ↓px_l2, ↓px_il, ↓px_d0, ↓px_d1, ↓px_d2, ↓px_pop, px_sz, ↓px_sp, ↓px_obj, ↓px_arr, ↓px_rd, ↓px_pt, ↓px_rok, ↓px_rv, ↓px_fill, ↓px_sl, ↓px_li, ↓px_l0, ↓px_lw, ↓px_lc, px_wi, px_wl, px_wr, px_up_at, lc_lt, lc_ge, lc_gt, lc_le, lc_eq, ↓reduceIte, Nat.reduceEqDiff, Nat.reduceLeDiff, Nat.reduceAdd, Nat.reduceSub, reduceCtorEq, List.length_cons, List.length_nil, Option.toList_some, Option.toList_none, List.cons_append, List.nil_append, true_and, and_true, false_and, and_false, true_or, or_true, false_or, or_false, and_self, or_self, not_false_eq_true, not_true_eq_false, false_implies, forall_const, true_implies, ↓bk_2, ↓pn_i2]
  try simp (disch := omega) only [true_and, and_true, mb_bit, mb_house, bcI_eq, px_up_row, ni_divL, ni_subL, nI_add, pk_mul, nI_leI, nI_ltI, nI_eq, vp_in_eq, nI_clamp, fa_and, fa_or, ni_bit1, ni_1s, nI_l, mb_eq0, mb_ne0, mb_eq1]
  constructor
  · intro h1
    rw [decide_eq_false (Int64.not_le.mpr h1)] at hS
    exact hS
  · intro h1
    constructor
    · intro h2
      rw [decide_eq_false (Int64.not_le.mpr h2), Bool.and_false] at hS
      exact hS
    · intro h2
      rw [decide_eq_true (Int64.not_lt.mp h1), decide_eq_true (Int64.not_lt.mp h2)] at hS
      exact hS
/-- isIn -/
def S_isIn : px_S := fun av σ k => match av with
  | [.inr (.inl v), .inl w] => k (some (.inl (mb (decide ((v >>> (w.toInt64 &&& 63)) &&& lN 1 = lN 1))))) σ
  | _ => False
theorem S_isIn_sp {av : List px_V} {σ : px_M} {k : Option px_V → px_M → Prop} (h : S_isIn av σ k) : ∃ v w, av = [.inr (.inl v), .inl w] ∧ k (some (.inl (mb (decide ((v >>> (w.toInt64 &&& 63)) &&& lN 1 = lN 1))))) σ := by
  unfold S_isIn at h
  split at h
  · exact ⟨_, _, rfl, h⟩
  · exact h.elim
set_option maxHeartbeats 4000000 in
set_option maxRecDepth 100000 in
theorem m_isIn {tab : px_T} (ht : mt_ok tab) {h : Nat} (hh : 1 ≤ h) : px_Ok tab pn_i14 h S_isIn := by
  refine px_mth ht.1 (by decide +kernel) (fun av σ k hS => by obtain ⟨v, w, rfl, hS⟩ := S_isIn_sp hS; exact Nat.le_of_ble_eq_true rfl) (fun C hT hC av σ k hS => ?_)
  replace hS := S_isIn_sp hS
  obtain ⟨v, w, rfl, hS⟩ := hS
  subst hT
  refine px_runG (h - 1) ck_14 [] [] 24 hC px_nosp (by omega) px_nocut (fun G Jf hG hJf => ?_)
  simp only [↓hG, ↓hJf, ↓px_go, ↓px_vc, ↓px_ex, ↓px_jp, ↓px_gi, ↓px_gl, ↓px_gr, ↓px_s1, ↓px_s2, ↓px_nl, ↓px_i1, ↓px_l1, ↓px_r1, ↓px_q1, ↓px_i2, ↓px_l2, ↓px_il, ↓px_d0, ↓px_d1, ↓px_d2, ↓px_pop, px_sz, ↓px_sp, ↓px_obj, ↓px_arr, ↓px_rd, ↓px_pt, ↓px_rok, ↓px_rv, ↓px_fill, ↓px_sl, ↓px_li, ↓px_l0, ↓px_lw, ↓px_lc, px_wi, px_wl, px_wr, px_up_at, lc_lt, lc_ge, lc_gt, lc_le, lc_eq, ↓reduceIte, Nat.reduceEqDiff, Nat.reduceLeDiff, Nat.reduceAdd, Nat.reduceSub, reduceCtorEq, List.length_cons, List.length_nil, Option.toList_some, Option.toList_none, List.cons_append, List.nil_append, true_and, and_true, false_and, and_false, true_or, or_true, false_or, or_false, and_self, or_self, not_false_eq_true, not_true_eq_false, false_implies, forall_const, true_implies, ↓bk_14, ↓pn_i14]
  try simp (disch := omega) only [true_and, and_true, mb_bit, mb_house, bcI_eq, px_up_row, ni_divL, ni_subL, nI_add, pk_mul, nI_leI, nI_ltI, nI_eq, vp_in_eq, nI_clamp, fa_and, fa_or, ni_bit1, ni_1s, nI_l, mb_eq0, mb_ne0, mb_eq1]
  constructor
  · intro h1
    rw [decide_eq_false h1] at hS
    exact hS
  · intro h1
    rw [decide_eq_true h1] at hS
    exact hS
/-- isHouse, near -/
def S_isHouse : px_S := fun av σ k => match av with
  | [.inr (.inr (some 0)), .inr (.inl v)] => mt_R σ.2.2 ∧ k (some (.inl (mb (decide (lN 0 ≤ v) && decide (v ≤ (σ.1 1 1 - nI 1).toInt64))))) σ
  | _ => False
theorem S_isHouse_sp {av : List px_V} {σ : px_M} {k : Option px_V → px_M → Prop} (h : S_isHouse av σ k) : ∃ v, av = [.inr (.inr (some 0)), .inr (.inl v)] ∧ mt_R σ.2.2 ∧ k (some (.inl (mb (decide (lN 0 ≤ v) && decide (v ≤ (σ.1 1 1 - nI 1).toInt64))))) σ := by
  unfold S_isHouse at h
  split at h
  · exact ⟨_, rfl, h⟩
  · exact h.elim
set_option maxHeartbeats 4000000 in
set_option maxRecDepth 100000 in
theorem m_isHouse {tab : px_T} (ht : mt_ok tab) {h : Nat} (hh : 2 ≤ h) : px_Ok tab pn_i30 h S_isHouse := by
  refine px_mth ht.1 (by decide +kernel) (fun av σ k hS => by obtain ⟨v, rfl, hR, hS⟩ := S_isHouse_sp hS; exact Nat.le_of_ble_eq_true rfl) (fun C hT hC av σ k hS => ?_)
  replace hS := S_isHouse_sp hS
  obtain ⟨v, rfl, hR, hS⟩ := hS
  subst hT
  refine px_runG (h - 1) ck_30 [(2, S_within)] [] 24 hC (px_sp1 (m_within ht (by omega)) px_nosp) (by omega) px_nocut (fun G Jf hG hJf => ?_)
  simp only [↓hG, ↓hJf, ↓px_go, ↓px_vc, ↓px_ex, ↓px_jp, ↓px_gi, ↓px_gl, ↓px_gr, ↓px_s1, ↓px_s2, ↓px_nl, ↓px_i1, ↓px_l1, ↓px_r1, ↓px_q1, ↓px_i2, ↓px_l2, ↓px_il, ↓px_d0, ↓px_d1, ↓px_d2, ↓px_pop, px_sz, ↓px_sp, ↓px_obj, ↓px_arr, ↓px_rd, ↓px_pt, ↓px_rok, ↓px_rv, ↓px_fill, ↓px_sl, ↓px_li, ↓px_l0, ↓px_lw, ↓px_lc, px_wi, px_wl, px_wr, px_up_at, lc_lt, lc_ge, lc_gt, lc_le, lc_eq, ↓reduceIte, Nat.reduceEqDiff, Nat.reduceLeDiff, Nat.reduceAdd, Nat.reduceSub, reduceCtorEq, List.length_cons, List.length_nil, Option.toList_some, Option.toList_none, List.cons_append, List.nil_append, true_and, and_true, false_and, and_false, true_or, or_true, false_or, or_false, and_self, or_self, not_false_eq_true, not_true_eq_false, false_implies, forall_const, true_implies, ↓bk_30, ↓pn_i30, ↓S_within, mt_0 ht, mt_1 ht, mr_1 hR]
  try simp (disch := omega) only [true_and, and_true, mb_bit, mb_house, bcI_eq, px_up_row, ni_divL, ni_subL, nI_add, pk_mul, nI_leI, nI_ltI, nI_eq, vp_in_eq, nI_clamp, fa_and, fa_or, ni_bit1, ni_1s, nI_l, mb_eq0, mb_ne0, mb_eq1]
  refine ⟨by decide, ?_, hS⟩
  cases (decide (lN 0 ≤ v) && decide (v ≤ (σ.1 1 1 - nI 1).toInt64)) <;> simp
def S_near : px_S := fun av σ k => match av with
  | [.inr (.inr (some 0)), .inl w] => mt_R σ.2.2 ∧ vp_in (nI 2 + w) 3216 ∧ k (some (.inl (σ.1 1 (nI 2 + w).toNatClampNeg))) σ
  | _ => False
theorem S_near_sp {av : List px_V} {σ : px_M} {k : Option px_V → px_M → Prop} (h : S_near av σ k) : ∃ w, av = [.inr (.inr (some 0)), .inl w] ∧ mt_R σ.2.2 ∧ vp_in (nI 2 + w) 3216 ∧ k (some (.inl (σ.1 1 (nI 2 + w).toNatClampNeg))) σ := by
  unfold S_near at h
  split at h
  · exact ⟨_, rfl, h⟩
  · exact h.elim
set_option maxHeartbeats 4000000 in
set_option maxRecDepth 100000 in
theorem m_near {tab : px_T} (ht : mt_ok tab) {h : Nat} (hh : 1 ≤ h) : px_Ok tab pn_i31 h S_near := by
  refine px_mth ht.1 (by decide +kernel) (fun av σ k hS => by obtain ⟨w, rfl, hR, h1, hS⟩ := S_near_sp hS; exact Nat.le_of_ble_eq_true rfl) (fun C hT hC av σ k hS => ?_)
  replace hS := S_near_sp hS
  obtain ⟨w, rfl, hR, h1, hS⟩ := hS
  subst hT
  refine px_runG (h - 1) ck_31 [] [] 24 hC px_nosp (by omega) px_nocut (fun G Jf hG hJf => ?_)
  simp only [↓hG, ↓hJf, ↓px_go, ↓px_vc, ↓px_ex, ↓px_jp, ↓px_gi, ↓px_gl, ↓px_gr, ↓px_s1, ↓px_s2, ↓px_nl, ↓px_i1, ↓px_l1, ↓px_r1, ↓px_q1, ↓px_i2, ↓px_l2, ↓px_il, ↓px_d0, ↓px_d1, ↓px_d2, ↓px_pop, px_sz, ↓px_sp, ↓px_obj, ↓px_arr, ↓px_rd, ↓px_pt, ↓px_rok, ↓px_rv, ↓px_fill, ↓px_sl, ↓px_li, ↓px_l0, ↓px_lw, ↓px_lc, px_wi, px_wl, px_wr, px_up_at, lc_lt, lc_ge, lc_gt, lc_le, lc_eq, ↓reduceIte, Nat.reduceEqDiff, Nat.reduceLeDiff, Nat.reduceAdd, Nat.reduceSub, reduceCtorEq, List.length_cons, List.length_nil, Option.toList_some, Option.toList_none, List.cons_append, List.nil_append, true_and, and_true, false_and, and_false, true_or, or_true, false_or, or_false, and_self, or_self, not_false_eq_true, not_true_eq_false, false_implies, forall_const, true_implies, ↓bk_31, ↓pn_i31, mt_0 ht, mt_1 ht, mr_1 hR]
  try simp (disch := omega) only [true_and, and_true, mb_bit, mb_house, bcI_eq, px_up_row, ni_divL, ni_subL, nI_add, pk_mul, nI_leI, nI_ltI, nI_eq, vp_in_eq, nI_clamp, fa_and, fa_or, ni_bit1, ni_1s, nI_l, mb_eq0, mb_ne0, mb_eq1]
  exact ⟨h1, hS⟩
/-- bitsOf -/
def S_bitsOf : px_S := fun av σ k => match av with
  | [.inl x] => k (some (.inl (bcI 11 x))) σ
  | _ => False
theorem S_bitsOf_sp {av : List px_V} {σ : px_M} {k : Option px_V → px_M → Prop} (h : S_bitsOf av σ k) : ∃ x, av = [.inl x] ∧ k (some (.inl (bcI 11 x))) σ := by
  unfold S_bitsOf at h
  split at h
  · exact ⟨_, rfl, h⟩
  · exact h.elim
def I_bitsOf (x : Int32) (σ : px_M) : Nat → px_Ls → px_M → Prop := fun j ls τ => ls = [some (.inl x), some (.inl (bcI j x)), some (.inl (nI j))] ∧ τ = σ
set_option maxHeartbeats 4000000 in
set_option maxRecDepth 100000 in
theorem m_bitsOf {tab : px_T} (ht : mt_ok tab) {h : Nat} (hh : 1 ≤ h) : px_Ok tab pn_i32 h S_bitsOf := by
  refine px_mth ht.1 (by decide +kernel) (fun av σ k hS => by obtain ⟨x, rfl, hS⟩ := S_bitsOf_sp hS; exact Nat.le_of_ble_eq_true rfl) (fun C hT hC av σ k hS => ?_)
  replace hS := S_bitsOf_sp hS
  obtain ⟨x, rfl, hS⟩ := hS
  subst hT
  have lp := px_loop (C := C) (k := k) (pc := 4) (I_bitsOf x σ) 11 (fun j ls σ' hj hI hn => by
    obtain ⟨rfl, rfl⟩ := hI
    refine px_runG (h - 1) ck_32 [] [(4, px_li (I_bitsOf x σ') j 11)] 24 hC px_nosp (by omega) (px_cut1 (px_li_ok hn) px_nocut) (fun G Jf hG hJf => ?_)
    simp only [↓hG, ↓hJf, ↓px_go, ↓px_vc, ↓px_ex, ↓px_jp, ↓px_gi, ↓px_gl, ↓px_gr, ↓px_s1, ↓px_s2, ↓px_nl, ↓px_i1, ↓px_l1, ↓px_r1, ↓px_q1, ↓px_i2, ↓px_l2, ↓px_il, ↓px_d0, ↓px_d1, ↓px_d2, ↓px_pop, px_sz, ↓px_sp, ↓px_obj, ↓px_arr, ↓px_rd, ↓px_pt, ↓px_rok, ↓px_rv, ↓px_fill, ↓px_sl, ↓px_li, ↓px_l0, ↓px_lw, ↓px_lc, px_wi, px_wl, px_wr, px_up_at, lc_lt, lc_ge, lc_gt, lc_le, lc_eq, ↓reduceIte, Nat.reduceEqDiff, Nat.reduceLeDiff, Nat.reduceAdd, Nat.reduceSub, reduceCtorEq, List.length_cons, List.length_nil, Option.toList_some, Option.toList_none, List.cons_append, List.nil_append, true_and, and_true, false_and, and_false, true_or, or_true, false_or, or_false, and_self, or_self, not_false_eq_true, not_true_eq_false, false_implies, forall_const, true_implies, ↓bk_32, ↓pn_i32, I_bitsOf]
    try simp (disch := omega) only [true_and, and_true, mb_bit, mb_house, bcI_eq, px_up_row, ni_divL, ni_subL, nI_add, pk_mul, nI_leI, nI_ltI, nI_eq, vp_in_eq, nI_clamp, fa_and, fa_or, ni_bit1, ni_1s, nI_l, mb_eq0, mb_ne0, mb_eq1]
    refine ⟨fun h1 => ?_, fun h1 => ⟨by omega, rfl⟩⟩
    have : j = 11 := by omega
    subst this
    exact hS)
  refine px_runG (h - 1) ck_32 [] [(4, px_l0 (I_bitsOf x σ))] 24 hC px_nosp (by omega) (px_cut1 (px_l0_ok lp) px_nocut) (fun G Jf hG hJf => ?_)
  simp only [↓hG, ↓hJf, ↓px_go, ↓px_vc, ↓px_ex, ↓px_jp, ↓px_gi, ↓px_gl, ↓px_gr, ↓px_s1, ↓px_s2, ↓px_nl, ↓px_i1, ↓px_l1, ↓px_r1, ↓px_q1, ↓px_i2, ↓px_l2, ↓px_il, ↓px_d0, ↓px_d1, ↓px_d2, ↓px_pop, px_sz, ↓px_sp, ↓px_obj, ↓px_arr, ↓px_rd, ↓px_pt, ↓px_rok, ↓px_rv, ↓px_fill, ↓px_sl, ↓px_li, ↓px_l0, ↓px_lw, ↓px_lc, px_wi, px_wl, px_wr, px_up_at, lc_lt, lc_ge, lc_gt, lc_le, lc_eq, ↓reduceIte, Nat.reduceEqDiff, Nat.reduceLeDiff, Nat.reduceAdd, Nat.reduceSub, reduceCtorEq, List.length_cons, List.length_nil, Option.toList_some, Option.toList_none, List.cons_append, List.nil_append, true_and, and_true, false_and, and_false, true_or, or_true, false_or, or_false, and_self, or_self, not_false_eq_true, not_true_eq_false, false_implies, forall_const, true_implies, ↓bk_32, ↓pn_i32, I_bitsOf]
  try simp (disch := omega) only [true_and, and_true, mb_bit, mb_house, bcI_eq, px_up_row, ni_divL, ni_subL, nI_add, pk_mul, nI_leI, nI_ltI, nI_eq, vp_in_eq, nI_clamp, fa_and, fa_or, ni_bit1, ni_1s, nI_l, mb_eq0, mb_ne0, mb_eq1]
  rfl
/-- threesOf -/
def t3f (r : Nat → Int32) (a j : Nat) : Nat := if (tB r a).testBit j then bc 11 (tB r a &&& tB r j) else 0
def S_threesOf : px_S := fun av σ k => match av with
  | [.inr (.inr (some 0)), .inl w] => mt_R σ.2.2 ∧ tok (σ.1 1) ∧ w = nI w.toNatClampNeg ∧ w.toNatClampNeg < 11 ∧ k (some (.inl (nI (sm (t3f (σ.1 1) w.toNatClampNeg) (tN (σ.1 1)) / 2)))) σ
  | _ => False
theorem S_threesOf_sp {av : List px_V} {σ : px_M} {k : Option px_V → px_M → Prop} (h : S_threesOf av σ k) : ∃ a, av = [.inr (.inr (some 0)), .inl (nI a)] ∧ mt_R σ.2.2 ∧ tok (σ.1 1) ∧ a < 11 ∧ k (some (.inl (nI (sm (t3f (σ.1 1) a) (tN (σ.1 1)) / 2)))) σ := by
  unfold S_threesOf at h
  split at h
  · obtain ⟨h1, h2, h3, h4, h5⟩ := h
    exact ⟨_, by rw [← h3], h1, h2, h4, h5⟩
  · exact h.elim
def I_threesOf (a : Nat) (σ : px_M) : Nat → px_Ls → px_M → Prop := fun j ls τ => ls = [some (.inr (.inr (some 0))), some (.inl (nI a)), some (.inl (nI (sm (t3f (σ.1 1) a) j))), some (.inl (nI j))] ∧ τ = σ
theorem t3f_le (r : Nat → Int32) (a j : Nat) : t3f r a j ≤ 11 := by
  unfold t3f
  split
  · exact bc_le 11 _
  · omega
set_option maxHeartbeats 4000000 in
set_option maxRecDepth 100000 in
theorem m_threesOf {tab : px_T} (ht : mt_ok tab) {h : Nat} (hh : 3 ≤ h) : px_Ok tab pn_i33 h S_threesOf := by
  refine px_mth ht.1 (by decide +kernel) (fun av σ k hS => by obtain ⟨a, rfl, hR, ⟨hn, h1, hnb, hlt⟩, ha, hS⟩ := S_threesOf_sp hS; exact Nat.le_of_ble_eq_true rfl) (fun C hT hC av σ k hS => ?_)
  replace hS := S_threesOf_sp hS
  obtain ⟨a, rfl, hR, ⟨hn, h1, hnb, hlt⟩, ha, hS⟩ := hS
  subst hT
  have lp := px_loop (C := C) (k := k) (pc := 4) (I_threesOf a σ) (tN (σ.1 1)) (fun j ls σ' hj hI hn2 => by
    obtain ⟨rfl, rfl⟩ := hI
    have hla := hlt a ha
    have hs := sm_le (t3f_le (σ'.1 1) a) j
    refine px_runG (h - 1) ck_33 [(31, S_near), (14, S_isIn), (32, S_bitsOf)] [(4, px_li (I_threesOf a σ') j (tN (σ'.1 1)))] 24 hC (px_sp1 (m_near ht (by omega)) (px_sp1 (m_isIn ht (by omega)) (px_sp1 (m_bitsOf ht (by omega)) px_nosp))) (by omega) (px_cut1 (px_li_ok hn2) px_nocut) (fun G Jf hG hJf => ?_)
    simp only [↓hG, ↓hJf, ↓px_go, ↓px_vc, ↓px_ex, ↓px_jp, ↓px_gi, ↓px_gl, ↓px_gr, ↓px_s1, ↓px_s2, ↓px_nl, ↓px_i1, ↓px_l1, ↓px_r1, ↓px_q1, ↓px_i2, ↓px_l2, ↓px_il, ↓px_d0, ↓px_d1, ↓px_d2, ↓px_pop, px_sz, ↓px_sp, ↓px_obj, ↓px_arr, ↓px_rd, ↓px_pt, ↓px_rok, ↓px_rv, ↓px_fill, ↓px_sl, ↓px_li, ↓px_l0, ↓px_lw, ↓px_lc, px_wi, px_wl, px_wr, px_up_at, lc_lt, lc_ge, lc_gt, lc_le, lc_eq, ↓reduceIte, Nat.reduceEqDiff, Nat.reduceLeDiff, Nat.reduceAdd, Nat.reduceSub, reduceCtorEq, List.length_cons, List.length_nil, Option.toList_some, Option.toList_none, List.cons_append, List.nil_append, true_and, and_true, false_and, and_false, true_or, or_true, false_or, or_false, and_self, or_self, not_false_eq_true, not_true_eq_false, false_implies, forall_const, true_implies, ↓bk_33, ↓pn_i33, ↓S_near, ↓S_isIn, ↓S_bitsOf, I_threesOf, mt_0 ht, mt_1 ht, mr_1 hR]
    try simp (disch := omega) only [true_and, and_true, mb_bit, mb_house, bcI_eq, px_up_row, ni_divL, ni_subL, nI_add, pk_mul, nI_leI, nI_ltI, nI_eq, vp_in_eq, nI_clamp, fa_and, fa_or, ni_bit1, ni_1s, nI_l, mb_eq0, mb_ne0, mb_eq1, h1, hnb]
    refine ⟨by omega, fun q => ⟨by omega, ?_⟩, fun q => ⟨hR, by omega, ?_, ?_⟩⟩
    · have : j = tN (σ'.1 1) := by omega
      rw [this]
      exact hS
    · intro hb
      exact ⟨by omega, by simp [sm, t3f, hb]⟩
    · intro hb
      have hj11 : j < 11 := by omega
      have h31 : tB (σ'.1 1) a &&& tB (σ'.1 1) j < 2048 := and_lt hla
      refine ⟨hR, by omega, hR, by omega, by omega, ?_⟩
      rw [hnb j hj11, fa_and, bcI_eq (by omega) (by omega), nI_add]
      simp [sm, t3f, hb])
  refine px_runG (h - 1) ck_33 [] [(4, px_l0 (I_threesOf a σ))] 24 hC px_nosp (by omega) (px_cut1 (px_l0_ok lp) px_nocut) (fun G Jf hG hJf => ?_)
  simp only [↓hG, ↓hJf, ↓px_go, ↓px_vc, ↓px_ex, ↓px_jp, ↓px_gi, ↓px_gl, ↓px_gr, ↓px_s1, ↓px_s2, ↓px_nl, ↓px_i1, ↓px_l1, ↓px_r1, ↓px_q1, ↓px_i2, ↓px_l2, ↓px_il, ↓px_d0, ↓px_d1, ↓px_d2, ↓px_pop, px_sz, ↓px_sp, ↓px_obj, ↓px_arr, ↓px_rd, ↓px_pt, ↓px_rok, ↓px_rv, ↓px_fill, ↓px_sl, ↓px_li, ↓px_l0, ↓px_lw, ↓px_lc, px_wi, px_wl, px_wr, px_up_at, lc_lt, lc_ge, lc_gt, lc_le, lc_eq, ↓reduceIte, Nat.reduceEqDiff, Nat.reduceLeDiff, Nat.reduceAdd, Nat.reduceSub, reduceCtorEq, List.length_cons, List.length_nil, Option.toList_some, Option.toList_none, List.cons_append, List.nil_append, true_and, and_true, false_and, and_false, true_or, or_true, false_or, or_false, and_self, or_self, not_false_eq_true, not_true_eq_false, false_implies, forall_const, true_implies, ↓bk_33, ↓pn_i33, I_threesOf]
  try simp (disch := omega) only [true_and, and_true, mb_bit, mb_house, bcI_eq, px_up_row, ni_divL, ni_subL, nI_add, pk_mul, nI_leI, nI_ltI, nI_eq, vp_in_eq, nI_clamp, fa_and, fa_or, ni_bit1, ni_1s, nI_l, mb_eq0, mb_ne0, mb_eq1]
  rfl
