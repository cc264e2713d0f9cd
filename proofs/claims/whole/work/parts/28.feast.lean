/-! the model: the largest feast -/
def oI : Option Nat → Int32
  | none => -1
  | some s => nI s
theorem ni_m1 {s : Nat} (h : s < 2 ^ 31) : ¬ nI s = -1 := by
  intro q
  have := congrArg Int32.toInt q
  rw [nI_toInt h] at this
  have e : (-1 : Int32).toInt = -1 := by decide
  rw [e] at this
  omega
/-- the largest feast among the sets below j that hold m, the least of these -/
def fc (r : Nat → Int32) (m j : Nat) : Option Nat → Bool
  | none => decide (j &&& m = m) && fst r j (tN r)
  | some b => decide (j &&& m = m) && (decide (bc 11 b < bc 11 j) && fst r j (tN r))
def fe (r : Nat → Int32) (m : Nat) : Nat → Option Nat
  | 0 => none
  | j + 1 => if fc r m j (fe r m j) = true then some j else fe r m j
theorem fe_lt {r : Nat → Int32} {m s : Nat} : ∀ {j : Nat}, fe r m j = some s → s < j := by
  intro j
  induction j with
  | zero => intro h; simp [fe] at h
  | succ j ih =>
    intro h
    simp only [fe] at h
    split at h
    · cases h; omega
    · have := ih h; omega
def S_feastWith : px_S := fun av σ k => match av with
  | [.inr (.inr (some 0)), .inl w] => mt_R σ.2.2 ∧ tok (σ.1 1) ∧ w = nI w.toNatClampNeg ∧ w.toNatClampNeg < 2048 ∧ k (some (.inl (oI (fe (σ.1 1) w.toNatClampNeg (2 ^ tN (σ.1 1)))))) σ
  | _ => False
theorem S_feastWith_sp {av : List px_V} {σ : px_M} {k : Option px_V → px_M → Prop} (h : S_feastWith av σ k) : ∃ w, av = [.inr (.inr (some 0)), .inl w] ∧ (mt_R σ.2.2 ∧ tok (σ.1 1) ∧ w = nI w.toNatClampNeg ∧ w.toNatClampNeg < 2048 ∧ k (some (.inl (oI (fe (σ.1 1) w.toNatClampNeg (2 ^ tN (σ.1 1)))))) σ) := by
  unfold S_feastWith at h
  split at h
  · exact ⟨_, rfl, h⟩
  · exact h.elim
def I_feastWith (m : Nat) (σ : px_M) : Nat → px_Ls → px_M → Prop := fun j ls τ => ls = [some (.inr (.inr (some 0))), some (.inl (nI m)), some (.inl (oI (fe (σ.1 1) m j))), some (.inl (nI j))] ∧ τ = σ
theorem fe_no {r : Nat → Int32} {m j : Nat} (h : ¬ j &&& m = m) : fe r m (j + 1) = fe r m j := by
  have : fc r m j (fe r m j) = false := by cases fe r m j <;> simp [fc, h]
  simp [fe, this]
theorem fe_nf {r : Nat → Int32} {m j : Nat} (h : fst r j (tN r) = false) : fe r m (j + 1) = fe r m j := by
  have : fc r m j (fe r m j) = false := by cases fe r m j <;> simp [fc, h]
  simp [fe, this]
theorem fe_nl {r : Nat → Int32} {m j b : Nat} (hb : fe r m j = some b) (h : bc 11 j ≤ bc 11 b) : fe r m (j + 1) = fe r m j := by
  have : fc r m j (fe r m j) = false := by rw [hb]; simp [fc]; omega
  simp [fe, this]
theorem fe_y0 {r : Nat → Int32} {m j : Nat} (h : j &&& m = m) (hb : fe r m j = none) (hf : fst r j (tN r) = true) : fe r m (j + 1) = some j := by
  have : fc r m j (fe r m j) = true := by rw [hb]; simp [fc, h, hf]
  simp [fe, this]
theorem fe_y1 {r : Nat → Int32} {m j b : Nat} (h : j &&& m = m) (hb : fe r m j = some b) (hl : ¬ bc 11 j ≤ bc 11 b) (hf : fst r j (tN r) = true) : fe r m (j + 1) = some j := by
  have : fc r m j (fe r m j) = true := by rw [hb]; simp [fc, h, hf]; omega
  simp [fe, this]
set_option maxHeartbeats 4000000 in
set_option maxRecDepth 100000 in
theorem m_feastWith {tab : px_T} (ht : mt_ok tab) {h : Nat} (hh : 3 ≤ h) : px_Ok tab pn_i41 h S_feastWith := by
  refine px_mth ht.1 (by decide +kernel) (fun av σ k hS => by obtain ⟨w, rfl, hR, htk, hw, hw2, hS⟩ := S_feastWith_sp hS; exact Nat.le_of_ble_eq_true rfl) (fun C hT hC av σ k hS => ?_)
  replace hS := S_feastWith_sp hS
  obtain ⟨w, rfl, hR, htk, hw, hw2, hS⟩ := hS
  subst hT
  obtain ⟨m, hm0⟩ : ∃ m, w.toNatClampNeg = m := ⟨_, rfl⟩
  rw [hm0] at hw hw2 hS
  subst hw
  clear hm0
  obtain ⟨hn, h1, hnb, hlt⟩ := id htk
  have hp := pw_le hn
  have lp := px_loop (C := C) (k := k) (pc := 4) (I_feastWith m σ) (2 ^ tN (σ.1 1)) (fun j ls σ' hj hI hn2 => by
    obtain ⟨rfl, rfl⟩ := hI
    have hja : j &&& m < 2 ^ 31 := Nat.lt_of_le_of_lt Nat.and_le_left (by omega)
    cases hbest : fe (σ'.1 1) m j with
    | none =>
      rw [show oI none = -1 from rfl]
      refine px_runG (h - 1) ck_41 [(32, S_bitsOf), (40, S_isFeast)] [(4, px_li (I_feastWith m σ') j (2 ^ tN (σ'.1 1)))] 24 hC (px_sp1 (m_bitsOf ht (by omega)) (px_sp1 (m_isFeast ht (by omega)) px_nosp)) (by omega) (px_cut1 (px_li_ok hn2) px_nocut) (fun G Jf hG hJf => ?_)
      simp only [↓hG, ↓hJf, ↓px_go, ↓px_vc, ↓px_ex, ↓px_jp, ↓px_gi, ↓px_gl, ↓px_gr, ↓px_s1, ↓px_s2, ↓px_nl, ↓px_i1, ↓px_l1, ↓px_r1, ↓px_q1, ↓px_i2, ↓px_l2, ↓px_il, ↓px_d0, ↓px_d1, ↓px_d2, ↓px_pop, px_sz, ↓px_sp, ↓px_obj, ↓px_arr, ↓px_rd, ↓px_pt, ↓px_rok, ↓px_rv, ↓px_fill, ↓px_sl, ↓px_li, ↓px_l0, ↓px_lw, ↓px_lc, px_wi, px_wl, px_wr, px_up_at, lc_lt, lc_ge, lc_gt, lc_le, lc_eq, ↓reduceIte, Nat.reduceEqDiff, Nat.reduceLeDiff, Nat.reduceAdd, Nat.reduceSub, reduceCtorEq, List.length_cons, List.length_nil, Option.toList_some, Option.toList_none, List.cons_append, List.nil_append, true_and, and_true, false_and, and_false, true_or, or_true, false_or, or_false, and_self, or_self, not_false_eq_true, not_true_eq_false, false_implies, forall_const, true_implies, ↓bk_41, ↓pn_i41, ↓S_bitsOf, ↓S_isFeast, I_feastWith, mt_0 ht, mt_1 ht, mr_1 hR]
      try simp (disch := omega) only [true_and, and_true, mb_bit, mb_house, bcI_eq, px_up_row, ni_divL, ni_subL, nI_add, pk_mul, nI_leI, nI_ltI, nI_eq, vp_in_eq, nI_clamp, fa_and, fa_or, ni_bit1, ni_1s, nI_l, mb_eq0, mb_ne0, mb_eq1, h1]
      refine ⟨by omega, fun q => ?_, fun q => ⟨fun q2 => ⟨by omega, ?_⟩, fun q2 => ⟨hR, htk, by omega, fun q3 => ⟨by omega, ?_⟩, fun q3 => ⟨by omega, ?_⟩⟩⟩⟩
      · have : j = 2 ^ tN (σ'.1 1) := by omega
        rw [← this, hbest] at hS
        exact hS
      · rw [fe_no q2, hbest]; rfl
      · rw [fe_nf q3, hbest]; rfl
      · rw [fe_y0 q2 hbest (by simpa using q3)]; rfl
    | some b =>
      have hbl := fe_lt hbest
      rw [show oI (some b) = nI b from rfl]
      have hbm := ni_m1 (s := b) (by omega)
      have hb1 := bc_le 11 j
      have hb2 := bc_le 11 b
      refine px_runG (h - 1) ck_41 [(32, S_bitsOf), (40, S_isFeast)] [(4, px_li (I_feastWith m σ') j (2 ^ tN (σ'.1 1)))] 24 hC (px_sp1 (m_bitsOf ht (by omega)) (px_sp1 (m_isFeast ht (by omega)) px_nosp)) (by omega) (px_cut1 (px_li_ok hn2) px_nocut) (fun G Jf hG hJf => ?_)
      simp only [↓hG, ↓hJf, ↓px_go, ↓px_vc, ↓px_ex, ↓px_jp, ↓px_gi, ↓px_gl, ↓px_gr, ↓px_s1, ↓px_s2, ↓px_nl, ↓px_i1, ↓px_l1, ↓px_r1, ↓px_q1, ↓px_i2, ↓px_l2, ↓px_il, ↓px_d0, ↓px_d1, ↓px_d2, ↓px_pop, px_sz, ↓px_sp, ↓px_obj, ↓px_arr, ↓px_rd, ↓px_pt, ↓px_rok, ↓px_rv, ↓px_fill, ↓px_sl, ↓px_li, ↓px_l0, ↓px_lw, ↓px_lc, px_wi, px_wl, px_wr, px_up_at, lc_lt, lc_ge, lc_gt, lc_le, lc_eq, ↓reduceIte, Nat.reduceEqDiff, Nat.reduceLeDiff, Nat.reduceAdd, Nat.reduceSub, reduceCtorEq, List.length_cons, List.length_nil, Option.toList_some, Option.toList_none, List.cons_append, List.nil_append, true_and, and_true, false_and, and_false, true_or, or_true, false_or, or_false, and_self, or_self, not_false_eq_true, not_true_eq_false, false_implies, forall_const, true_implies, ↓bk_41, ↓pn_i41, ↓S_bitsOf, ↓S_isFeast, I_feastWith, mt_0 ht, mt_1 ht, mr_1 hR, hbm]
      try simp (disch := omega) only [true_and, and_true, mb_bit, mb_house, bcI_eq, px_up_row, ni_divL, ni_subL, nI_add, pk_mul, nI_leI, nI_ltI, nI_eq, vp_in_eq, nI_clamp, fa_and, fa_or, ni_bit1, ni_1s, nI_l, mb_eq0, mb_ne0, mb_eq1, h1]
      refine ⟨by omega, fun q => ?_, fun q => ⟨fun q2 => ⟨by omega, ?_⟩, fun q2 => ⟨fun q3 => ⟨by omega, ?_⟩, fun q3 => ⟨hR, htk, by omega, fun q4 => ⟨by omega, ?_⟩, fun q4 => ⟨by omega, ?_⟩⟩⟩⟩⟩
      · have : j = 2 ^ tN (σ'.1 1) := by omega
        rw [← this, hbest] at hS
        exact hS
      · rw [fe_no q2, hbest]; rfl
      · rw [fe_nl hbest q3, hbest]; rfl
      · rw [fe_nf q4, hbest]; rfl
      · rw [fe_y1 q2 hbest q3 (by simpa using q4)]; rfl)
  refine px_runG (h - 1) ck_41 [] [(4, px_l0 (I_feastWith m σ))] 24 hC px_nosp (by omega) (px_cut1 (px_l0_ok lp) px_nocut) (fun G Jf hG hJf => ?_)
  simp only [↓hG, ↓hJf, ↓px_go, ↓px_vc, ↓px_ex, ↓px_jp, ↓px_gi, ↓px_gl, ↓px_gr, ↓px_s1, ↓px_s2, ↓px_nl, ↓px_i1, ↓px_l1, ↓px_r1, ↓px_q1, ↓px_i2, ↓px_l2, ↓px_il, ↓px_d0, ↓px_d1, ↓px_d2, ↓px_pop, px_sz, ↓px_sp, ↓px_obj, ↓px_arr, ↓px_rd, ↓px_pt, ↓px_rok, ↓px_rv, ↓px_fill, ↓px_sl, ↓px_li, ↓px_l0, ↓px_lw, ↓px_lc, px_wi, px_wl, px_wr, px_up_at, lc_lt, lc_ge, lc_gt, lc_le, lc_eq, ↓reduceIte, Nat.reduceEqDiff, Nat.reduceLeDiff, Nat.reduceAdd, Nat.reduceSub, reduceCtorEq, List.length_cons, List.length_nil, Option.toList_some, Option.toList_none, List.cons_append, List.nil_append, true_and, and_true, false_and, and_false, true_or, or_true, false_or, or_false, and_self, or_self, not_false_eq_true, not_true_eq_false, false_implies, forall_const, true_implies, ↓bk_41, ↓pn_i41, I_feastWith]
  try simp (disch := omega) only [true_and, and_true, mb_bit, mb_house, bcI_eq, px_up_row, ni_divL, ni_subL, nI_add, pk_mul, nI_leI, nI_ltI, nI_eq, vp_in_eq, nI_clamp, fa_and, fa_or, ni_bit1, ni_1s, nI_l, mb_eq0, mb_ne0, mb_eq1]
  rfl
