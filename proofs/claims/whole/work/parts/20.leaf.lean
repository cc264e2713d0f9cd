/-! the model's leaves -/
/-- the model's cells: label 0 the object, label s the array of its slot s -/
def mt_tab : px_T := [(0, .inl 0), (1, .inr (0, 3216)), (2, .inr (2, 2)), (3, .inr (0, 900)), (4, .inr (0, 1072)), (15, .inr (0, 11)), (16, .inr (0, 11)), (17, .inr (0, 900)), (18, .inr (0, 12)), (19, .inr (0, 11)), (20, .inr (0, 12)), (23, .inr (3, 2048)), (24, .inr (3, 2048)), (25, .inr (2, 2048)), (26, .inr (2, 2048)), (27, .inr (0, 11)), (28, .inr (0, 11)), (31, .inr (0, 6)), (35, .inr (0, 4)), (36, .inr (0, 4)), (37, .inr (3, 160))]
def mt_ok (tab : px_T) : Prop := (tab.map Prod.fst).Nodup ∧ ∀ q ∈ mt_tab, px_lay tab q.1 = some q.2
theorem mt_0 {tab : px_T} (h : mt_ok tab) : px_lay tab 0 = some (.inl 0) := h.2 (0, .inl 0) (by simp [mt_tab])
theorem mt_1 {tab : px_T} (h : mt_ok tab) : px_lay tab 1 = some (.inr (0, 3216)) := h.2 (1, .inr (0, 3216)) (by simp [mt_tab])
/-- the object's references -/
def mt_R (R : Nat → Nat → Option Nat) : Prop := ∀ q ∈ mt_tab, 0 < q.1 → R 0 q.1 = some q.1
theorem mr_1 {R : Nat → Nat → Option Nat} (h : mt_R R) : R 0 1 = some 1 := h (1, .inr (0, 3216)) (by simp [mt_tab]) (by decide)
/-- the town in the model's memory: n houses, the neighbours of each -/
def tw (I : Nat → Nat → Int32) (n : Nat) (nb : Nat → Nat) : Prop := n ≤ 11 ∧ I 1 1 = nI n ∧ (∀ h, h < 11 → I 1 (2 + h) = nI (nb h)) ∧ ∀ h, nb h < 2048
/-- within -/
def S_within : px_S := fun av σ k => ∃ v lo hi, av = [.inr (.inl v), .inr (.inl lo), .inr (.inl hi)] ∧ k (some (.inl (mb (decide (lo ≤ v) && decide (v ≤ hi))))) σ
theorem m_within {tab : px_T} (ht : mt_ok tab) {h : Nat} (hh : 1 ≤ h) : px_Ok tab pn_i2 h S_within := by
  refine px_mth ht.1 (by decide +kernel) (fun av σ k hS => by obtain ⟨v, lo, hi, rfl, hS⟩ := hS; exact Nat.le_of_ble_eq_true rfl) (fun C hT hC av σ k hS => ?_)
  obtain ⟨v, lo, hi, rfl, hS⟩ := hS
  subst hT
  refine px_run (h - 1) ck_2 [] [] 24 hC px_nosp (by omega) px_nocut ?_
  simp (disch := omega) only [px_go, px_vc, px_ex, px_jp, px_gi, px_gl, px_gr, px_s1, px_s2, px_nl, px_i1, px_l1, px_r1, px_q1, px_i2, px_l2, px_il, px_d0, px_d1, px_d2, px_pop, px_sz, px_sp, px_obj, px_arr, px_rd, px_pt, px_rok, px_rv, px_fill, px_sl, px_li, px_l0, px_lw, px_wi, px_wl, px_wr, px_up_at, lc_lt, lc_ge, lc_gt, lc_le, lc_eq, ↓reduceIte, Nat.reduceEqDiff, Nat.reduceLeDiff, Nat.reduceAdd, Nat.reduceSub, reduceCtorEq, List.length_cons, List.length_nil, Option.toList_some, Option.toList_none, List.cons_append, List.nil_append, true_and, and_true, false_and, and_false, true_or, or_true, false_or, or_false, and_self, or_self, not_false_eq_true, not_true_eq_false, false_implies, forall_const, true_implies, bk_2, pn_i2, nI_add, pk_mul, nI_leI, nI_ltI, nI_eq, vp_in_eq, nI_clamp, fa_and, fa_or, ni_bit1, ni_1s, nI_l, mb_eq0, mb_ne0, mb_eq1]
  constructor
  · intro h1
    rw [decide_eq_false (Int64.not_le.mpr h1)] at hS
    exact hS
  · intro h1
    constructor
    · intro h2
      rw [decide_eq_false (Int64.not_le.mpr h2), Bool.and_false] at hS
      exact hS
    · intro h2
      rw [decide_eq_true (Int64.not_lt.mp h1), decide_eq_true (Int64.not_lt.mp h2)] at hS
      exact hS
/-- isIn -/
def S_isIn : px_S := fun av σ k => ∃ s j, s < 2 ^ 31 ∧ j < 32 ∧ av = [.inr (.inl (lN s)), .inl (nI j)] ∧ k (some (.inl (mb (s.testBit j)))) σ
theorem m_isIn {tab : px_T} (ht : mt_ok tab) {h : Nat} (hh : 1 ≤ h) : px_Ok tab pn_i14 h S_isIn := by
  refine px_mth ht.1 (by decide +kernel) (fun av σ k hS => by obtain ⟨s, j, hs, hj, rfl, hS⟩ := hS; exact Nat.le_of_ble_eq_true rfl) (fun C hT hC av σ k hS => ?_)
  obtain ⟨s, j, hs, hj, rfl, hS⟩ := hS
  subst hT
  have hb : lN s >>> (lN j &&& 63) &&& lN 1 = lN ((s.testBit j).toNat) := by rw [← nI_l (n := j) (by omega)]; exact ln_bit hs hj
  refine px_run (h - 1) ck_14 [] [] 24 hC px_nosp (by omega) px_nocut ?_
  simp (disch := omega) only [px_go, px_vc, px_ex, px_jp, px_gi, px_gl, px_gr, px_s1, px_s2, px_nl, px_i1, px_l1, px_r1, px_q1, px_i2, px_l2, px_il, px_d0, px_d1, px_d2, px_pop, px_sz, px_sp, px_obj, px_arr, px_rd, px_pt, px_rok, px_rv, px_fill, px_sl, px_li, px_l0, px_lw, px_wi, px_wl, px_wr, px_up_at, lc_lt, lc_ge, lc_gt, lc_le, lc_eq, ↓reduceIte, Nat.reduceEqDiff, Nat.reduceLeDiff, Nat.reduceAdd, Nat.reduceSub, reduceCtorEq, List.length_cons, List.length_nil, Option.toList_some, Option.toList_none, List.cons_append, List.nil_append, true_and, and_true, false_and, and_false, true_or, or_true, false_or, or_false, and_self, or_self, not_false_eq_true, not_true_eq_false, false_implies, forall_const, true_implies, bk_14, pn_i14, nI_add, pk_mul, nI_leI, nI_ltI, nI_eq, vp_in_eq, nI_clamp, fa_and, fa_or, ni_bit1, ni_1s, nI_l, mb_eq0, mb_ne0, mb_eq1, hb]
  cases hbb : s.testBit j <;> rw [hbb] at hS
  · exact ⟨fun _ => hS, fun q => absurd q ln_01⟩
  · exact ⟨fun q => absurd rfl q, fun _ => hS⟩
/-- the bits of a set below j -/
def bc : Nat → Nat → Nat
  | 0, _ => 0
  | j + 1, s => bc j s + (s.testBit j).toNat
def S_bitsOf : px_S := fun av σ k => ∃ s, s < 2 ^ 31 ∧ av = [.inl (nI s)] ∧ k (some (.inl (nI (bc 11 s)))) σ
def I_bitsOf (s : Nat) (σ : px_M) : Nat → px_Ls → px_M → Prop := fun j ls τ => ls = [some (.inl (nI s)), some (.inl (nI (bc j s))), some (.inl (nI j))] ∧ τ = σ
/-- isHouse, near -/
def S_isHouse : px_S := fun av σ k => ∃ v n nb, mt_R σ.2.2 ∧ tw σ.1 n nb ∧ av = [.inr (.inr (some 0)), .inr (.inl v)] ∧ k (some (.inl (mb (decide (0 ≤ v.toInt) && decide (v.toInt < n))))) σ
theorem m_isHouse {tab : px_T} (ht : mt_ok tab) {h : Nat} (hh : 2 ≤ h) : px_Ok tab pn_i30 h S_isHouse := by
  refine px_mth ht.1 (by decide +kernel) (fun av σ k hS => by obtain ⟨v, n, nb, hR, ht2, rfl, hS⟩ := hS; exact Nat.le_of_ble_eq_true rfl) (fun C hT hC av σ k hS => ?_)
  obtain ⟨v, n, nb, hR, ht2, rfl, hS⟩ := hS
  subst hT
  obtain ⟨hn, h1, hnb, hlt⟩ := ht2
  refine px_run (h - 1) ck_30 [(2, S_within)] [] 24 hC (px_sp1 (m_within ht (by omega)) px_nosp) (by omega) px_nocut ?_
  simp (disch := omega) only [px_go, px_vc, px_ex, px_jp, px_gi, px_gl, px_gr, px_s1, px_s2, px_nl, px_i1, px_l1, px_r1, px_q1, px_i2, px_l2, px_il, px_d0, px_d1, px_d2, px_pop, px_sz, px_sp, px_obj, px_arr, px_rd, px_pt, px_rok, px_rv, px_fill, px_sl, px_li, px_l0, px_lw, px_wi, px_wl, px_wr, px_up_at, lc_lt, lc_ge, lc_gt, lc_le, lc_eq, ↓reduceIte, Nat.reduceEqDiff, Nat.reduceLeDiff, Nat.reduceAdd, Nat.reduceSub, reduceCtorEq, List.length_cons, List.length_nil, Option.toList_some, Option.toList_none, List.cons_append, List.nil_append, true_and, and_true, false_and, and_false, true_or, or_true, false_or, or_false, and_self, or_self, not_false_eq_true, not_true_eq_false, false_implies, forall_const, true_implies, bk_30, pn_i30, nI_add, pk_mul, nI_leI, nI_ltI, nI_eq, vp_in_eq, nI_clamp, fa_and, fa_or, ni_bit1, ni_1s, nI_l, mb_eq0, mb_ne0, mb_eq1, mt_0 ht, mt_1 ht, mr_1 hR, S_within, h1]
  refine ⟨by decide, v, lN 0, _, rfl, by cases (decide (lN 0 ≤ v) && decide (v ≤ (nI n - nI 1).toInt64)) <;> simp, ?_⟩
  have e1 : decide (lN 0 ≤ v) = decide (0 ≤ v.toInt) := decide_eq_decide.mpr (fa_le64 _ _)
  have e2 : decide (v ≤ (nI n - nI 1).toInt64) = decide (v.toInt < n) := by
    have : (nI n - nI 1).toInt64.toInt = (n : Int) - 1 := by
      have := pk_sub_toInt (a := n) (b := 1) (by omega) (by omega)
      rw [Int32.toInt_toInt64, this]; rfl
    refine decide_eq_decide.mpr ?_
    rw [fa_le64, this]
    omega
  rw [e1, e2]
  exact hS
def S_near : px_S := fun av σ k => ∃ j n nb, mt_R σ.2.2 ∧ tw σ.1 n nb ∧ j < 11 ∧ av = [.inr (.inr (some 0)), .inl (nI j)] ∧ k (some (.inl (nI (nb j)))) σ
theorem m_near {tab : px_T} (ht : mt_ok tab) {h : Nat} (hh : 1 ≤ h) : px_Ok tab pn_i31 h S_near := by
  refine px_mth ht.1 (by decide +kernel) (fun av σ k hS => by obtain ⟨j, n, nb, hR, ht2, hj, rfl, hS⟩ := hS; exact Nat.le_of_ble_eq_true rfl) (fun C hT hC av σ k hS => ?_)
  obtain ⟨j, n, nb, hR, ht2, hj, rfl, hS⟩ := hS
  subst hT
  obtain ⟨hn, h1, hnb, hlt⟩ := ht2
  refine px_run (h - 1) ck_31 [] [] 24 hC px_nosp (by omega) px_nocut ?_
  simp (disch := omega) only [px_go, px_vc, px_ex, px_jp, px_gi, px_gl, px_gr, px_s1, px_s2, px_nl, px_i1, px_l1, px_r1, px_q1, px_i2, px_l2, px_il, px_d0, px_d1, px_d2, px_pop, px_sz, px_sp, px_obj, px_arr, px_rd, px_pt, px_rok, px_rv, px_fill, px_sl, px_li, px_l0, px_lw, px_wi, px_wl, px_wr, px_up_at, lc_lt, lc_ge, lc_gt, lc_le, lc_eq, ↓reduceIte, Nat.reduceEqDiff, Nat.reduceLeDiff, Nat.reduceAdd, Nat.reduceSub, reduceCtorEq, List.length_cons, List.length_nil, Option.toList_some, Option.toList_none, List.cons_append, List.nil_append, true_and, and_true, false_and, and_false, true_or, or_true, false_or, or_false, and_self, or_self, not_false_eq_true, not_true_eq_false, false_implies, forall_const, true_implies, bk_31, pn_i31, nI_add, pk_mul, nI_leI, nI_ltI, nI_eq, vp_in_eq, nI_clamp, fa_and, fa_or, ni_bit1, ni_1s, nI_l, mb_eq0, mb_ne0, mb_eq1, mt_0 ht, mt_1 ht, mr_1 hR, h1, hnb]
  exact ⟨by omega, hS⟩
