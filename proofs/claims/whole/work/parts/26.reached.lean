/-! the model: reachedFrom, twoAway, steps, parts -/
theorem ly_stay {nb : Nat → Nat} {n a M : Nat} (ha : a < 11) (h : ∀ j, j < n → nb j < 2048) (hM : ly nb n a (M + 1) = 0) (i : Nat) : ly nb n a (M + 1 + i) = 0 := by
  have h1 := rc_stay ha h hM i
  have h2 := rc_stay ha h hM (i + 1)
  rw [show M + 1 + i = (M + i) + 1 by omega]
  simp only [ly]
  rw [show M + i + 1 = M + (i + 1) by omega, h1, h2]
  apply tb_eq
  intro x
  rw [nd_tb (rc_lt (pw_lt ha) h M)]
  cases (rc nb n M (2 ^ a)).testBit x <;> simp
/-- the numbers far, and the step at which they stay -/
def fz (r : Nat → Int32) (a : Nat) (row : Nat → Int32) : Prop := ∃ M, fw r a M row ∧ M ≤ 10 ∧ ly (tB r) (tN r) a (M + 1) = 0 ∧ ∀ i, i < M → ¬ ly (tB r) (tN r) a (i + 1) = 0
theorem fz_of {r : Nat → Int32} {a M : Nat} {row : Nat → Int32} (ht : tok r) (ha : a < 11) (h1 : fw r a M row) (h2 : ly (tB r) (tN r) a (M + 1) = 0) (h3 : ∀ i, i < M → ¬ ly (tB r) (tN r) a (i + 1) = 0) : fz r a row := by
  obtain ⟨hn, -, -, hlt⟩ := ht
  exact ⟨M, h1, ly_10 ha (fun j hj => hlt j (by omega)) h3, h2, h3⟩
theorem fz_99 {r : Nat → Int32} {a : Nat} {row : Nat → Int32} (ht : tok r) (ha : a < 11) (hf : fz r a row) {h : Nat} (hh : h < 11) : nI 99 ≤ row h ↔ (rc (tB r) (tN r) 11 (2 ^ a)).testBit h = false := by
  obtain ⟨hn, -, -, hlt⟩ := ht
  have hltn : ∀ j, j < tN r → tB r j < 2048 := fun j hj => hlt j (by omega)
  obtain ⟨M, h1, h2, h3, h4⟩ := hf
  have h5 := fd_le (nb := tB r) (n := tN r) (a := a) h (M := M) (by omega)
  rw [h1 h hh, nI_leI (by omega) (by omega), ← rc_11 ha hltn h3 h4]
  have := fd_99 ha hltn (x := h) (M := M) (by omega)
  cases hb : (rc (tB r) (tN r) M (2 ^ a)).testBit h with
  | true => have := this.mpr hb; simp; omega
  | false =>
    have : ¬ fd (tB r) (tN r) a M h < 99 := fun q => by rw [this.mp q] at hb; cases hb
    simp; omega
theorem fz_at {r : Nat → Int32} {a : Nat} {row : Nat → Int32} (ht : tok r) (ha : a < 11) (hf : fz r a row) {h i : Nat} (hh : h < 11) (hi : i < 99) : row h = nI i ↔ (ly (tB r) (tN r) a i).testBit h = true := by
  obtain ⟨hn, -, -, hlt⟩ := ht
  have hltn : ∀ j, j < tN r → tB r j < 2048 := fun j hj => hlt j (by omega)
  obtain ⟨M, h1, h2, h3, h4⟩ := hf
  have h5 := fd_le (nb := tB r) (n := tN r) (a := a) h (M := M) (by omega)
  rw [h1 h hh, nI_eq (by omega) (by omega), fd_eq ha hltn hi (by omega)]
  constructor
  · exact fun q => q.2
  · intro q
    refine ⟨?_, q⟩
    rcases Nat.lt_or_ge M i with q2 | q2
    · have := ly_stay ha hltn h3 (i - (M + 1))
      rw [show M + 1 + (i - (M + 1)) = i by omega] at this
      rw [this] at q
      simp at q
    · exact q2
def S_reachedFrom : px_S := fun av σ k => match av with
  | [.inr (.inr (some 0)), .inl w] => mt_R σ.2.2 ∧ tok (σ.1 1) ∧ tok2 (σ.1 1) ∧ w = nI w.toNatClampNeg ∧ w.toNatClampNeg < 11 ∧ ∀ τ, fr 15 σ τ → k (some (.inl (nI (bs (fun h => (rc (tB (σ.1 1)) (tN (σ.1 1)) 11 (2 ^ w.toNatClampNeg)).testBit h) (tN (σ.1 1)))))) τ
  | _ => False
theorem S_reachedFrom_sp {av : List px_V} {σ : px_M} {k : Option px_V → px_M → Prop} (h : S_reachedFrom av σ k) : ∃ w, av = [.inr (.inr (some 0)), .inl w] ∧ (mt_R σ.2.2 ∧ tok (σ.1 1) ∧ tok2 (σ.1 1) ∧ w = nI w.toNatClampNeg ∧ w.toNatClampNeg < 11 ∧ ∀ τ, fr 15 σ τ → k (some (.inl (nI (bs (fun h => (rc (tB (σ.1 1)) (tN (σ.1 1)) 11 (2 ^ w.toNatClampNeg)).testBit h) (tN (σ.1 1)))))) τ) := by
  unfold S_reachedFrom at h
  split at h
  · exact ⟨_, rfl, h⟩
  · exact h.elim
def I_reach (p : Nat → Bool) (a : Nat) (σ : px_M) : Nat → px_Ls → px_M → Prop := fun j ls τ => fr 15 σ τ ∧ fz (σ.1 1) a (τ.1 15) ∧ ls = [some (.inr (.inr (some 0))), some (.inl (nI a)), some (.inl (nI (bs p j))), some (.inl (nI j))]
set_option maxHeartbeats 4000000 in
set_option maxRecDepth 100000 in
theorem m_reachedFrom {tab : px_T} (ht : mt_ok tab) {h : Nat} (hh : 3 ≤ h) : px_Ok tab pn_i36 h S_reachedFrom := by
  refine px_mth ht.1 (by decide +kernel) (fun av σ k hS => by obtain ⟨w, rfl, hR, htk, htk2, hw, hw2, hS⟩ := S_reachedFrom_sp hS; exact Nat.le_of_ble_eq_true rfl) (fun C hT hC av σ k hS => ?_)
  replace hS := S_reachedFrom_sp hS
  obtain ⟨w, rfl, hR, htk, htk2, hw, hw2, hS⟩ := hS
  subst hT
  obtain ⟨a, ha0⟩ : ∃ a, w.toNatClampNeg = a := ⟨_, rfl⟩
  rw [ha0] at hw hw2 hS
  subst hw
  clear ha0
  obtain ⟨hn, h1, hnb, hlt⟩ := id htk
  have lp := px_loop (C := C) (k := k) (pc := 10) (I_reach (fun h => (rc (tB (σ.1 1)) (tN (σ.1 1)) 11 (2 ^ a)).testBit h) a σ) (tN (σ.1 1)) (fun j ls τ hj hI hn2 => by
    obtain ⟨hfr, hfz, rfl⟩ := hI
    have hr1 : τ.1 1 = σ.1 1 := hfr.1 1 (by decide)
    have hR' : mt_R τ.2.2 := by rw [hfr.2]; exact hR
    have hbl := bs_lt (p := fun h => (rc (tB (σ.1 1)) (tN (σ.1 1)) 11 (2 ^ a)).testBit h) (j := j) (by omega)
    refine px_runG (h - 1) ck_36 [] [(10, px_li (I_reach (fun h => (rc (tB (σ.1 1)) (tN (σ.1 1)) 11 (2 ^ a)).testBit h) a σ) j (tN (σ.1 1)))] 24 hC px_nosp (by omega) (px_cut1 (px_li_ok hn2) px_nocut) (fun G Jf hG hJf => ?_)
    simp only [↓hG, ↓hJf, ↓px_go, ↓px_vc, ↓px_ex, ↓px_jp, ↓px_gi, ↓px_gl, ↓px_gr, ↓px_s1, ↓px_s2, ↓px_nl, ↓px_i1, ↓px_l1, ↓px_r1, ↓px_q1, ↓px_i2, ↓px_l2, ↓px_il, ↓px_d0, ↓px_d1, ↓px_d2, ↓px_pop, px_sz, ↓px_sp, ↓px_obj, ↓px_arr, ↓px_rd, ↓px_pt, ↓px_rok, ↓px_rv, ↓px_fill, ↓px_sl, ↓px_li, ↓px_l0, ↓px_lw, ↓px_lc, px_wi, px_wl, px_wr, px_up_at, lc_lt, lc_ge, lc_gt, lc_le, lc_eq, ↓reduceIte, Nat.reduceEqDiff, Nat.reduceLeDiff, Nat.reduceAdd, Nat.reduceSub, reduceCtorEq, List.length_cons, List.length_nil, Option.toList_some, Option.toList_none, List.cons_append, List.nil_append, true_and, and_true, false_and, and_false, true_or, or_true, false_or, or_false, and_self, or_self, not_false_eq_true, not_true_eq_false, false_implies, forall_const, true_implies, ↓bk_36, ↓pn_i36, I_reach, mt_0 ht, mt_1 ht, mt_15 ht, mr_1 hR', mr_15 hR']
    try simp (disch := omega) only [true_and, and_true, mb_bit, mb_house, bcI_eq, px_up_row, ni_divL, ni_subL, nI_add, pk_mul, nI_leI, nI_ltI, nI_eq, vp_in_eq, nI_clamp, fa_and, fa_or, ni_bit1, ni_1s, nI_l, mb_eq0, mb_ne0, mb_eq1, hr1, h1]
    refine ⟨by omega, fun q => ?_, fun q => ⟨by omega, fun q2 => ⟨by omega, hfr, hfz, ?_⟩, fun q2 => ⟨by omega, hfr, hfz, ?_⟩⟩⟩
    · have : j = tN (σ.1 1) := by omega
      subst this
      exact hS τ hfr
    · have hb := (fz_99 htk hw2 hfz (by omega)).mp q2
      simp [bs, hb]
    · have hb : (rc (tB (σ.1 1)) (tN (σ.1 1)) 11 (2 ^ a)).testBit j = true := by
        cases hb : (rc (tB (σ.1 1)) (tN (σ.1 1)) 11 (2 ^ a)).testBit j with
        | true => rfl
        | false => exact absurd ((fz_99 htk hw2 hfz (by omega)).mpr hb) q2
      simp [bs, hb])
  refine px_runG (h - 1) ck_36 [(35, S_laysFar)] [(10, px_l0 (I_reach (fun h => (rc (tB (σ.1 1)) (tN (σ.1 1)) 11 (2 ^ a)).testBit h) a σ))] 24 hC (px_sp1 (m_laysFar ht (by omega)) px_nosp) (by omega) (px_cut1 (px_l0_ok lp) px_nocut) (fun G Jf hG hJf => ?_)
  simp only [↓hG, ↓hJf, ↓px_go, ↓px_vc, ↓px_ex, ↓px_jp, ↓px_gi, ↓px_gl, ↓px_gr, ↓px_s1, ↓px_s2, ↓px_nl, ↓px_i1, ↓px_l1, ↓px_r1, ↓px_q1, ↓px_i2, ↓px_l2, ↓px_il, ↓px_d0, ↓px_d1, ↓px_d2, ↓px_pop, px_sz, ↓px_sp, ↓px_obj, ↓px_arr, ↓px_rd, ↓px_pt, ↓px_rok, ↓px_rv, ↓px_fill, ↓px_sl, ↓px_li, ↓px_l0, ↓px_lw, ↓px_lc, px_wi, px_wl, px_wr, px_up_at, lc_lt, lc_ge, lc_gt, lc_le, lc_eq, ↓reduceIte, Nat.reduceEqDiff, Nat.reduceLeDiff, Nat.reduceAdd, Nat.reduceSub, reduceCtorEq, List.length_cons, List.length_nil, Option.toList_some, Option.toList_none, List.cons_append, List.nil_append, true_and, and_true, false_and, and_false, true_or, or_true, false_or, or_false, and_self, or_self, not_false_eq_true, not_true_eq_false, false_implies, forall_const, true_implies, ↓bk_36, ↓pn_i36, ↓S_laysFar, I_reach, mt_0 ht]
  try simp (disch := omega) only [true_and, and_true, mb_bit, mb_house, bcI_eq, px_up_row, ni_divL, ni_subL, nI_add, pk_mul, nI_leI, nI_ltI, nI_eq, vp_in_eq, nI_clamp, fa_and, fa_or, ni_bit1, ni_1s, nI_l, mb_eq0, mb_ne0, mb_eq1]
  exact ⟨hR, htk, htk2, by omega, fun M τ hfr hfw h2 h3 => ⟨hfr, fz_of htk hw2 hfw h2 h3, rfl⟩⟩
def S_twoAway : px_S := fun av σ k => match av with
  | [.inr (.inr (some 0)), .inl w] => mt_R σ.2.2 ∧ tok (σ.1 1) ∧ tok2 (σ.1 1) ∧ w = nI w.toNatClampNeg ∧ w.toNatClampNeg < 11 ∧ ∀ τ, fr 15 σ τ → k (some (.inl (nI (bs (fun h => (ly (tB (σ.1 1)) (tN (σ.1 1)) w.toNatClampNeg 2).testBit h) (tN (σ.1 1)))))) τ
  | _ => False
theorem S_twoAway_sp {av : List px_V} {σ : px_M} {k : Option px_V → px_M → Prop} (h : S_twoAway av σ k) : ∃ w, av = [.inr (.inr (some 0)), .inl w] ∧ (mt_R σ.2.2 ∧ tok (σ.1 1) ∧ tok2 (σ.1 1) ∧ w = nI w.toNatClampNeg ∧ w.toNatClampNeg < 11 ∧ ∀ τ, fr 15 σ τ → k (some (.inl (nI (bs (fun h => (ly (tB (σ.1 1)) (tN (σ.1 1)) w.toNatClampNeg 2).testBit h) (tN (σ.1 1)))))) τ) := by
  unfold S_twoAway at h
  split at h
  · exact ⟨_, rfl, h⟩
  · exact h.elim
set_option maxHeartbeats 4000000 in
set_option maxRecDepth 100000 in
theorem m_twoAway {tab : px_T} (ht : mt_ok tab) {h : Nat} (hh : 3 ≤ h) : px_Ok tab pn_i37 h S_twoAway := by
  refine px_mth ht.1 (by decide +kernel) (fun av σ k hS => by obtain ⟨w, rfl, hR, htk, htk2, hw, hw2, hS⟩ := S_twoAway_sp hS; exact Nat.le_of_ble_eq_true rfl) (fun C hT hC av σ k hS => ?_)
  replace hS := S_twoAway_sp hS
  obtain ⟨w, rfl, hR, htk, htk2, hw, hw2, hS⟩ := hS
  subst hT
  obtain ⟨a, ha0⟩ : ∃ a, w.toNatClampNeg = a := ⟨_, rfl⟩
  rw [ha0] at hw hw2 hS
  subst hw
  clear ha0
  obtain ⟨hn, h1, hnb, hlt⟩ := id htk
  have lp := px_loop (C := C) (k := k) (pc := 10) (I_reach (fun h => (ly (tB (σ.1 1)) (tN (σ.1 1)) a 2).testBit h) a σ) (tN (σ.1 1)) (fun j ls τ hj hI hn2 => by
    obtain ⟨hfr, hfz, rfl⟩ := hI
    have hr1 : τ.1 1 = σ.1 1 := hfr.1 1 (by decide)
    have hR' : mt_R τ.2.2 := by rw [hfr.2]; exact hR
    have hbl := bs_lt (p := fun h => (ly (tB (σ.1 1)) (tN (σ.1 1)) a 2).testBit h) (j := j) (by omega)
    refine px_runG (h - 1) ck_37 [] [(10, px_li (I_reach (fun h => (ly (tB (σ.1 1)) (tN (σ.1 1)) a 2).testBit h) a σ) j (tN (σ.1 1)))] 24 hC px_nosp (by omega) (px_cut1 (px_li_ok hn2) px_nocut) (fun G Jf hG hJf => ?_)
    simp only [↓hG, ↓hJf, ↓px_go, ↓px_vc, ↓px_ex, ↓px_jp, ↓px_gi, ↓px_gl, ↓px_gr, ↓px_s1, ↓px_s2, ↓px_nl, ↓px_i1, ↓px_l1, ↓px_r1, ↓px_q1, ↓px_i2, ↓px_l2, ↓px_il, ↓px_d0, ↓px_d1, ↓px_d2, ↓px_pop, px_sz, ↓px_sp, ↓px_obj, ↓px_arr, ↓px_rd, ↓px_pt, ↓px_rok, ↓px_rv, ↓px_fill, ↓px_sl, ↓px_li, ↓px_l0, ↓px_lw, ↓px_lc, px_wi, px_wl, px_wr, px_up_at, lc_lt, lc_ge, lc_gt, lc_le, lc_eq, ↓reduceIte, Nat.reduceEqDiff, Nat.reduceLeDiff, Nat.reduceAdd, Nat.reduceSub, reduceCtorEq, List.length_cons, List.length_nil, Option.toList_some, Option.toList_none, List.cons_append, List.nil_append, true_and, and_true, false_and, and_false, true_or, or_true, false_or, or_false, and_self, or_self, not_false_eq_true, not_true_eq_false, false_implies, forall_const, true_implies, ↓bk_37, ↓pn_i37, I_reach, mt_0 ht, mt_1 ht, mt_15 ht, mr_1 hR', mr_15 hR']
    try simp (disch := omega) only [true_and, and_true, mb_bit, mb_house, bcI_eq, px_up_row, ni_divL, ni_subL, nI_add, pk_mul, nI_leI, nI_ltI, nI_eq, vp_in_eq, nI_clamp, fa_and, fa_or, ni_bit1, ni_1s, nI_l, mb_eq0, mb_ne0, mb_eq1, hr1, h1]
    refine ⟨by omega, fun q => ?_, fun q => ⟨by omega, fun q2 => ⟨by omega, hfr, hfz, ?_⟩, fun q2 => ⟨by omega, hfr, hfz, ?_⟩⟩⟩
    · have : j = tN (σ.1 1) := by omega
      subst this
      exact hS τ hfr
    · have hb : (ly (tB (σ.1 1)) (tN (σ.1 1)) a 2).testBit j = false := by
        cases hb : (ly (tB (σ.1 1)) (tN (σ.1 1)) a 2).testBit j with
        | false => rfl
        | true => exact absurd ((fz_at htk hw2 hfz (by omega) (by omega)).mpr hb) q2
      simp [bs, hb]
    · have hb := (fz_at htk hw2 hfz (by omega) (by omega)).mp q2
      simp [bs, hb])
  refine px_runG (h - 1) ck_37 [(35, S_laysFar)] [(10, px_l0 (I_reach (fun h => (ly (tB (σ.1 1)) (tN (σ.1 1)) a 2).testBit h) a σ))] 24 hC (px_sp1 (m_laysFar ht (by omega)) px_nosp) (by omega) (px_cut1 (px_l0_ok lp) px_nocut) (fun G Jf hG hJf => ?_)
  simp only [↓hG, ↓hJf, ↓px_go, ↓px_vc, ↓px_ex, ↓px_jp, ↓px_gi, ↓px_gl, ↓px_gr, ↓px_s1, ↓px_s2, ↓px_nl, ↓px_i1, ↓px_l1, ↓px_r1, ↓px_q1, ↓px_i2, ↓px_l2, ↓px_il, ↓px_d0, ↓px_d1, ↓px_d2, ↓px_pop, px_sz, ↓px_sp, ↓px_obj, ↓px_arr, ↓px_rd, ↓px_pt, ↓px_rok, ↓px_rv, ↓px_fill, ↓px_sl, ↓px_li, ↓px_l0, ↓px_lw, ↓px_lc, px_wi, px_wl, px_wr, px_up_at, lc_lt, lc_ge, lc_gt, lc_le, lc_eq, ↓reduceIte, Nat.reduceEqDiff, Nat.reduceLeDiff, Nat.reduceAdd, Nat.reduceSub, reduceCtorEq, List.length_cons, List.length_nil, Option.toList_some, Option.toList_none, List.cons_append, List.nil_append, true_and, and_true, false_and, and_false, true_or, or_true, false_or, or_false, and_self, or_self, not_false_eq_true, not_true_eq_false, false_implies, forall_const, true_implies, ↓bk_37, ↓pn_i37, ↓S_laysFar, I_reach, mt_0 ht]
  try simp (disch := omega) only [true_and, and_true, mb_bit, mb_house, bcI_eq, px_up_row, ni_divL, ni_subL, nI_add, pk_mul, nI_leI, nI_ltI, nI_eq, vp_in_eq, nI_clamp, fa_and, fa_or, ni_bit1, ni_1s, nI_l, mb_eq0, mb_ne0, mb_eq1]
  exact ⟨hR, htk, htk2, by omega, fun M τ hfr hfw h2 h3 => ⟨hfr, fz_of htk hw2 hfw h2 h3, rfl⟩⟩
/-- parts: houses whose part has none before them -/
def pt_seen (nb : Nat → Nat) (n : Nat) : Nat → Nat
  | 0 => 0
  | j + 1 => if (pt_seen nb n j).testBit j then pt_seen nb n j else pt_seen nb n j ||| bs (fun h => (rc nb n 11 (2 ^ j)).testBit h) n
def pt_cnt (nb : Nat → Nat) (n : Nat) : Nat → Nat
  | 0 => 0
  | j + 1 => if (pt_seen nb n j).testBit j then pt_cnt nb n j else pt_cnt nb n j + 1
theorem pt_lt {nb : Nat → Nat} {n : Nat} (hn : n ≤ 11) : ∀ j, pt_seen nb n j < 2048 := by
  intro j
  induction j with
  | zero => simp [pt_seen]
  | succ j ih =>
    simp only [pt_seen]
    split
    · exact ih
    · exact or_lt ih (bs_lt hn)
def S_parts : px_S := fun av σ k => av = [.inr (.inr (some 0))] ∧ mt_R σ.2.2 ∧ tok (σ.1 1) ∧ tok2 (σ.1 1) ∧ ∀ τ, fr 15 σ τ → k (some (.inl (nI (pt_cnt (tB (σ.1 1)) (tN (σ.1 1)) (tN (σ.1 1)))))) τ
def I_parts (σ : px_M) : Nat → px_Ls → px_M → Prop := fun j ls τ => fr 15 σ τ ∧ ls = [some (.inr (.inr (some 0))), some (.inl (nI (pt_cnt (tB (σ.1 1)) (tN (σ.1 1)) j))), some (.inl (nI (pt_seen (tB (σ.1 1)) (tN (σ.1 1)) j))), some (.inl (nI j))]
theorem fr_tr {l : Nat} {σ τ υ : px_M} (h1 : fr l σ τ) (h2 : fr l τ υ) : fr l σ υ := ⟨fun m hm => (h2.1 m hm).trans (h1.1 m hm), h2.2.trans h1.2⟩
set_option maxHeartbeats 4000000 in
set_option maxRecDepth 100000 in
theorem m_parts {tab : px_T} (ht : mt_ok tab) {h : Nat} (hh : 4 ≤ h) : px_Ok tab pn_i133 h S_parts := by
  refine px_mth ht.1 (by decide +kernel) (fun av σ k hS => by obtain ⟨rfl, hR, htk, htk2, hS⟩ := hS; exact Nat.le_of_ble_eq_true rfl) (fun C hT hC av σ k hS => ?_)
  obtain ⟨rfl, hR, htk, htk2, hS⟩ := hS
  subst hT
  obtain ⟨hn, h1, hnb, hlt⟩ := id htk
  have lp := px_loop (C := C) (k := k) (pc := 6) (I_parts σ) (tN (σ.1 1)) (fun j ls τ hj hI hn2 => by
    obtain ⟨hfr, rfl⟩ := hI
    have hr1 : τ.1 1 = σ.1 1 := hfr.1 1 (by decide)
    have hR' : mt_R τ.2.2 := by rw [hfr.2]; exact hR
    have hsl := pt_lt (nb := tB (σ.1 1)) hn j
    refine px_runG (h - 1) ck_133 [(14, S_isIn), (36, S_reachedFrom)] [(6, px_li (I_parts σ) j (tN (σ.1 1)))] 24 hC (px_sp1 (m_isIn ht (by omega)) (px_sp1 (m_reachedFrom ht (by omega)) px_nosp)) (by omega) (px_cut1 (px_li_ok hn2) px_nocut) (fun G Jf hG hJf => ?_)
    simp only [↓hG, ↓hJf, ↓px_go, ↓px_vc, ↓px_ex, ↓px_jp, ↓px_gi, ↓px_gl, ↓px_gr, ↓px_s1, ↓px_s2, ↓px_nl, ↓px_i1, ↓px_l1, ↓px_r1, ↓px_q1, ↓px_i2, ↓px_l2, ↓px_il, ↓px_d0, ↓px_d1, ↓px_d2, ↓px_pop, px_sz, ↓px_sp, ↓px_obj, ↓px_arr, ↓px_rd, ↓px_pt, ↓px_rok, ↓px_rv, ↓px_fill, ↓px_sl, ↓px_li, ↓px_l0, ↓px_lw, ↓px_lc, px_wi, px_wl, px_wr, px_up_at, lc_lt, lc_ge, lc_gt, lc_le, lc_eq, ↓reduceIte, Nat.reduceEqDiff, Nat.reduceLeDiff, Nat.reduceAdd, Nat.reduceSub, reduceCtorEq, List.length_cons, List.length_nil, Option.toList_some, Option.toList_none, List.cons_append, List.nil_append, true_and, and_true, false_and, and_false, true_or, or_true, false_or, or_false, and_self, or_self, not_false_eq_true, not_true_eq_false, false_implies, forall_const, true_implies, ↓bk_133, ↓pn_i133, ↓S_isIn, ↓S_reachedFrom, I_parts, mt_0 ht, mt_1 ht, mr_1 hR']
    try simp (disch := omega) only [true_and, and_true, mb_bit, mb_house, bcI_eq, px_up_row, ni_divL, ni_subL, nI_add, pk_mul, nI_leI, nI_ltI, nI_eq, vp_in_eq, nI_clamp, fa_and, fa_or, ni_bit1, ni_1s, nI_l, mb_eq0, mb_ne0, mb_eq1, hr1, h1]
    refine ⟨by omega, fun q => ?_, fun q => ⟨fun hb => ⟨hR', htk, htk2, by omega, fun υ hu => ⟨by omega, fr_tr hfr hu, ?_⟩⟩, fun hb => ⟨by omega, hfr, ?_⟩⟩⟩
    · have : j = tN (σ.1 1) := by omega
      subst this
      exact hS τ hfr
    · simp [pt_cnt, pt_seen, hb]
    · have hb' : (pt_seen (tB (σ.1 1)) (tN (σ.1 1)) j).testBit j = true := by simpa using hb
      simp [pt_cnt, pt_seen, hb'])
  refine px_runG (h - 1) ck_133 [] [(6, px_l0 (I_parts σ))] 24 hC px_nosp (by omega) (px_cut1 (px_l0_ok lp) px_nocut) (fun G Jf hG hJf => ?_)
  simp only [↓hG, ↓hJf, ↓px_go, ↓px_vc, ↓px_ex, ↓px_jp, ↓px_gi, ↓px_gl, ↓px_gr, ↓px_s1, ↓px_s2, ↓px_nl, ↓px_i1, ↓px_l1, ↓px_r1, ↓px_q1, ↓px_i2, ↓px_l2, ↓px_il, ↓px_d0, ↓px_d1, ↓px_d2, ↓px_pop, px_sz, ↓px_sp, ↓px_obj, ↓px_arr, ↓px_rd, ↓px_pt, ↓px_rok, ↓px_rv, ↓px_fill, ↓px_sl, ↓px_li, ↓px_l0, ↓px_lw, ↓px_lc, px_wi, px_wl, px_wr, px_up_at, lc_lt, lc_ge, lc_gt, lc_le, lc_eq, ↓reduceIte, Nat.reduceEqDiff, Nat.reduceLeDiff, Nat.reduceAdd, Nat.reduceSub, reduceCtorEq, List.length_cons, List.length_nil, Option.toList_some, Option.toList_none, List.cons_append, List.nil_append, true_and, and_true, false_and, and_false, true_or, or_true, false_or, or_false, and_self, or_self, not_false_eq_true, not_true_eq_false, false_implies, forall_const, true_implies, ↓bk_133, ↓pn_i133, I_parts]
  try simp (disch := omega) only [true_and, and_true, mb_bit, mb_house, bcI_eq, px_up_row, ni_divL, ni_subL, nI_add, pk_mul, nI_leI, nI_ltI, nI_eq, vp_in_eq, nI_clamp, fa_and, fa_or, ni_bit1, ni_1s, nI_l, mb_eq0, mb_ne0, mb_eq1]
  exact ⟨fr_rf 15 σ, rfl⟩
