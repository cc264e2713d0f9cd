/-! the model's leaves -/
/-- the model's cells: label 0 the object, label s the array of its slot s -/
def mt_tab : px_T := [(0, .inl 0), (1, .inr (0, 3216)), (2, .inr (2, 2)), (3, .inr (0, 900)), (4, .inr (0, 1072)), (15, .inr (0, 11)), (16, .inr (0, 11)), (17, .inr (0, 900)), (18, .inr (0, 12)), (19, .inr (0, 11)), (20, .inr (0, 12)), (23, .inr (3, 2048)), (24, .inr (3, 2048)), (25, .inr (2, 2048)), (26, .inr (2, 2048)), (27, .inr (0, 11)), (28, .inr (0, 11)), (31, .inr (0, 6)), (35, .inr (0, 4)), (36, .inr (0, 4)), (37, .inr (3, 160))]
def mt_ok (tab : px_T) : Prop := (tab.map Prod.fst).Nodup ∧ ∀ q ∈ mt_tab, px_lay tab q.1 = some q.2
theorem mt_0 {tab : px_T} (h : mt_ok tab) : px_lay tab 0 = some (.inl 0) := h.2 (0, .inl 0) (by simp [mt_tab])
theorem mt_1 {tab : px_T} (h : mt_ok tab) : px_lay tab 1 = some (.inr (0, 3216)) := h.2 (1, .inr (0, 3216)) (by simp [mt_tab])
/-- the object's references -/
def mt_R (R : Nat → Nat → Option Nat) : Prop := ∀ q ∈ mt_tab, 0 < q.1 → R 0 q.1 = some q.1
theorem mr_1 {R : Nat → Nat → Option Nat} (h : mt_R R) : R 0 1 = some 1 := h (1, .inr (0, 3216)) (by simp [mt_tab]) (by decide)
/-- a loop at a place, by a count that goes up -/
theorem px_loop {C : px_C} {k : Option px_V → px_M → Prop} {pc : Nat} (I : Nat → px_Ls → px_M → Prop) (n : Nat) (body : ∀ j ls σ, j ≤ n → I j ls σ → (∀ ls' σ', j < n → I (j + 1) ls' σ' → px_W C k pc ls' [] σ') → px_W C k pc ls [] σ) : ∀ j ls σ, j ≤ n → I j ls σ → px_W C k pc ls [] σ := by
  have key : ∀ m j ls σ, j + m = n → I j ls σ → px_W C k pc ls [] σ := by
    intro m
    induction m with
    | zero => intro j ls σ hj hI; exact body j ls σ (by omega) hI (fun ls' σ' hlt _ => absurd hlt (by omega))
    | succ m ih => intro j ls σ hj hI; exact body j ls σ (by omega) hI (fun ls' σ' _ hI' => ih (j + 1) ls' σ' (by omega) hI')
  intro j ls σ hj hI
  exact key (n - j) j ls σ (by omega) hI
/-- within -/
def S_within : px_S := fun av σ k => ∃ v lo hi, av = [.inr (.inl v), .inr (.inl lo), .inr (.inl hi)] ∧ k (some (.inl (mb (decide (lo ≤ v) && decide (v ≤ hi))))) σ
theorem m_within {tab : px_T} (ht : mt_ok tab) (h : Nat) : px_Ok tab pn_i2 (h + 1) S_within := by
  refine px_mth ht.1 (by decide +kernel) (fun av σ k hS => by obtain ⟨v, lo, hi, rfl, -⟩ := hS; exact Nat.le_of_ble_eq_true rfl) (fun C hT hC av σ k hS => ?_)
  obtain ⟨v, lo, hi, rfl, hS⟩ := hS
  refine px_run h ck_2 [] [] 10 hC px_nosp (Nat.le_refl _) px_nocut ?_
  simp only [px_go, px_vc, px_ex, px_jp, px_gi, px_gl, px_gr, px_s1, px_s2, px_nl, px_i1, px_l1, px_r1, px_q1, px_i2, px_l2, px_il, px_d0, px_d1, px_d2, px_pop, px_sz, px_sp, px_obj, px_arr, px_rd, px_pt, px_rok, px_rv, px_fill, px_sl, px_wi, px_wl, px_wr, px_up_at, lg_cmp_lt, lg_cmp_ge, lg_cmp_gt, lg_cmp_le, lg_cmp_eq, ↓reduceIte, Nat.reduceEqDiff, Nat.reduceLeDiff, Nat.reduceAdd, Nat.reduceSub, reduceCtorEq, List.length_cons, List.length_nil, Option.toList_some, Option.toList_none, List.cons_append, List.nil_append, true_and, and_true, true_or, or_true, and_self, not_false_eq_true, not_true_eq_false, false_implies, forall_const, true_implies, bk_2, pn_i2]
  constructor
  · intro h1
    simpa [Int64.not_le.mpr h1, mb] using hS
  · intro h1
    constructor
    · intro h2
      simpa [Int64.not_le.mpr h2, mb] using hS
    · intro h2
      simpa [Int64.not_lt.mp h1, Int64.not_lt.mp h2, mb] using hS
/-- the bits of a set below j -/
def bc : Nat → Nat → Nat
  | 0, _ => 0
  | j + 1, s => bc j s + (s.testBit j).toNat
def S_bitsOf : px_S := fun av σ k => ∃ s, s < 2 ^ 31 ∧ av = [.inl (nI s)] ∧ k (some (.inl (nI (bc 11 s)))) σ
theorem m_bitsOf {tab : px_T} (ht : mt_ok tab) (h : Nat) : px_Ok tab pn_i32 (h + 1) S_bitsOf := by
  refine px_mth ht.1 (by decide +kernel) (fun av σ k hS => by obtain ⟨s, -, rfl, -⟩ := hS; exact Nat.le_of_ble_eq_true rfl) (fun C hT hC av σ k hS => ?_)
  obtain ⟨s, hs, rfl, hS⟩ := hS
  have lp := px_loop (C := C) (k := k) (pc := 4) (fun j ls σ' => ls = [some (.inl (nI s)), some (.inl (nI (bc j s))), some (.inl (nI j))] ∧ σ' = σ) 11 (fun j ls σ' hj hI hn => by
    obtain ⟨rfl, rfl⟩ := hI
    refine px_run h ck_32 [] [(4, fun ls st τ => st = [] ∧ j < 11 ∧ ls = [some (.inl (nI s)), some (.inl (nI (bc (j + 1) s))), some (.inl (nI (j + 1)))] ∧ τ = σ')] 10 hC px_nosp (Nat.le_refl _) (px_cut1 (fun ls st τ hz => by obtain ⟨rfl, h1, h2⟩ := hz; exact hn _ _ h1 h2) px_nocut) ?_
    simp only [px_go, px_vc, px_ex, px_jp, px_gi, px_gl, px_gr, px_s1, px_s2, px_nl, px_i1, px_l1, px_r1, px_q1, px_i2, px_l2, px_il, px_d0, px_d1, px_d2, px_pop, px_sz, px_sp, px_obj, px_arr, px_rd, px_pt, px_rok, px_rv, px_fill, px_sl, px_wi, px_wl, px_wr, px_up_at, lg_cmp_lt, lg_cmp_ge, lg_cmp_gt, lg_cmp_le, lg_cmp_eq, ↓reduceIte, Nat.reduceEqDiff, Nat.reduceLeDiff, Nat.reduceAdd, Nat.reduceSub, reduceCtorEq, List.length_cons, List.length_nil, Option.toList_some, Option.toList_none, List.cons_append, List.nil_append, true_and, and_true, true_or, or_true, and_self, not_false_eq_true, not_true_eq_false, false_implies, forall_const, true_implies, bk_32, pn_i32]
    constructor
    · intro h1
      have : j = 11 := by
        have := (nI_leI (a := 11) (b := j) (by omega) (by omega)).mp h1
        omega
      subst this
      exact hS
    · intro h1
      have hlt : j < 11 := by
        rcases Nat.lt_or_ge j 11 with q | q
        · exact q
        · exact absurd (nI_le q (by omega)) h1
      refine ⟨hlt, ?_⟩
      rw [ni_bit hs (by omega), nI_add, nI_1]
      rfl)
  refine px_run h ck_32 [] [(4, fun ls st τ => st = [] ∧ ls = [some (.inl (nI s)), some (.inl (nI (bc 0 s))), some (.inl (nI 0))] ∧ τ = σ)] 10 hC px_nosp (Nat.le_refl _) (px_cut1 (fun ls st τ hz => by obtain ⟨rfl, h2⟩ := hz; exact lp 0 _ _ (by omega) h2) px_nocut) ?_
  simp only [px_go, px_vc, px_ex, px_jp, px_gi, px_gl, px_gr, px_s1, px_s2, px_nl, px_i1, px_l1, px_r1, px_q1, px_i2, px_l2, px_il, px_d0, px_d1, px_d2, px_pop, px_sz, px_sp, px_obj, px_arr, px_rd, px_pt, px_rok, px_rv, px_fill, px_sl, px_wi, px_wl, px_wr, px_up_at, lg_cmp_lt, lg_cmp_ge, lg_cmp_gt, lg_cmp_le, lg_cmp_eq, ↓reduceIte, Nat.reduceEqDiff, Nat.reduceLeDiff, Nat.reduceAdd, Nat.reduceSub, reduceCtorEq, List.length_cons, List.length_nil, Option.toList_some, Option.toList_none, List.cons_append, List.nil_append, true_and, and_true, true_or, or_true, and_self, not_false_eq_true, not_true_eq_false, false_implies, forall_const, true_implies, bk_32, pn_i32]
  rfl
