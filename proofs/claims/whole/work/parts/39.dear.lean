/-! the model: colour -/
def S_colour : px_S := fun av σ k => match av with
  | [.inr (.inr (some 0)), .inl x] => mt_R σ.2.2 ∧ tok (σ.1 1) ∧ (¬ (0 ≤ x.toInt64.toInt ∧ x.toInt64.toInt < tN (σ.1 1)) → k (some (.inl (-2))) (px_wi σ 0 0 (nI 0))) ∧ ∀ (a m : Nat) (q : List Nat) (τ : px_M), a < tN (σ.1 1) → x = nI a → fr 16 (px_wi σ 0 0 (nI 0)) τ → m ≤ tN (σ.1 1) → dy (σ.1 1) (-1) m (tN (σ.1 1)) [] = some q → (∀ i, i < m → dy (σ.1 1) (-1) i (tN (σ.1 1)) [] = none) → k (some (.inl (nI (q.getD a 0)))) τ
  | _ => False
theorem S_colour_sp {av : List px_V} {σ : px_M} {k : Option px_V → px_M → Prop} (h : S_colour av σ k) : ∃ x, av = [.inr (.inr (some 0)), .inl x] ∧ (mt_R σ.2.2 ∧ tok (σ.1 1) ∧ (¬ (0 ≤ x.toInt64.toInt ∧ x.toInt64.toInt < tN (σ.1 1)) → k (some (.inl (-2))) (px_wi σ 0 0 (nI 0))) ∧ ∀ (a m : Nat) (q : List Nat) (τ : px_M), a < tN (σ.1 1) → x = nI a → fr 16 (px_wi σ 0 0 (nI 0)) τ → m ≤ tN (σ.1 1) → dy (σ.1 1) (-1) m (tN (σ.1 1)) [] = some q → (∀ i, i < m → dy (σ.1 1) (-1) i (tN (σ.1 1)) [] = none) → k (some (.inl (nI (q.getD a 0)))) τ) := by
  unfold S_colour at h
  split at h
  · exact ⟨_, rfl, h⟩
  · exact h.elim
theorem dyl_len {f : List Nat → Option (List Nat)} {ok : Nat → Bool} {L q : List Nat} {n : Nat} (hf : ∀ x q, f (L ++ [x]) = some q → q.length = n) : ∀ (e x : Nat), dyl f ok L e x = some q → q.length = n := by
  intro e
  induction e with
  | zero => intro x h; simp [dyl] at h
  | succ e ih =>
    intro x h
    simp only [dyl] at h
    split at h
    · split at h
      · rename_i q' hq
        cases h
        exact hf x _ hq
      · exact ih _ h
    · exact ih _ h
theorem dy_len {r : Nat → Int32} {but : Int32} {many : Nat} : ∀ (d : Nat) (L q : List Nat), dy r but many d L = some q → q.length = L.length + d := by
  intro d
  induction d with
  | zero => intro L q h; simp [dy] at h; subst h; rfl
  | succ d ih =>
    intro L q h
    simp only [dy] at h
    split at h
    · have := ih _ _ h
      simp at this; omega
    · refine dyl_len (n := L.length + (d + 1)) (fun x q' hq => ?_) _ _ h
      have := ih _ _ hq
      simp at this; omega
set_option maxHeartbeats 4000000 in
set_option maxRecDepth 100000 in
theorem m_colour {tab : px_T} (ht : mt_ok tab) {h : Nat} (hh : 15 ≤ h) : px_Ok tab pn_i92 h S_colour := by
  refine px_mth ht.1 (by decide +kernel) (fun av σ k hS => by obtain ⟨x, rfl, hR, htk, hS1, hS2⟩ := S_colour_sp hS; exact Nat.le_of_ble_eq_true rfl) (fun C hT hC av σ k hS => ?_)
  replace hS := S_colour_sp hS
  obtain ⟨x, rfl, hR, htk, hS1, hS2⟩ := hS
  subst hT
  obtain ⟨hn, h1, hnb, hlt⟩ := id htk
  by_cases hx : 0 ≤ x.toInt64.toInt ∧ x.toInt64.toInt < tN (σ.1 1)
  · obtain ⟨a, ha, rfl⟩ := hs_of hx hn
    rw [nI_l (by omega)] at hx
    refine px_runG (h - 1) ck_92 [(30, S_isHouse), (43, S_fewestColours)] [] 24 hC (px_sp1 (m_isHouse ht (by omega)) (px_sp1 (m_fewestColours ht (by omega)) px_nosp)) (by omega) px_nocut (fun G Jf hG hJf => ?_)
    simp only [↓hG, ↓hJf, ↓px_go, ↓px_vc, ↓px_ex, ↓px_jp, ↓px_gi, ↓px_gl, ↓px_gr, ↓px_s1, ↓px_s2, ↓px_nl, ↓px_i1, ↓px_l1, ↓px_r1, ↓px_q1, ↓px_i2, ↓px_l2, ↓px_il, ↓px_d0, ↓px_d1, ↓px_d2, ↓px_pop, px_sz, ↓px_sp, ↓px_obj, ↓px_arr, ↓px_rd, ↓px_pt, ↓px_rok, ↓px_rv, ↓px_fill, ↓px_sl, ↓px_li, ↓px_l0, ↓px_lw, ↓px_lc, px_wi, px_wl, px_wr, px_up_at, lc_lt, lc_ge, lc_gt, lc_le, lc_eq, ↓reduceIte, Nat.reduceEqDiff, Nat.reduceLeDiff, Nat.reduceAdd, Nat.reduceSub, reduceCtorEq, List.length_cons, List.length_nil, Option.toList_some, Option.toList_none, List.cons_append, List.nil_append, true_and, and_true, false_and, and_false, true_or, or_true, false_or, or_false, and_self, or_self, not_false_eq_true, not_true_eq_false, false_implies, forall_const, true_implies, ↓bk_92, ↓pn_i92, ↓S_isHouse, ↓S_fewestColours, mt_0 ht]
    try simp (disch := omega) only [true_and, and_true, mb_bit, mb_house, bcI_eq, px_up_row, ni_divL, ni_subL, nI_add, pk_mul, nI_leI, nI_ltI, nI_eq, vp_in_eq, nI_clamp, fa_and, fa_or, ni_bit1, ni_1s, nI_l, mb_eq0, mb_ne0, mb_eq1, h1, mb_house2]
    refine ⟨hR, fun _ => ⟨hR, htk, fun m q τ g1 g2 g3 g4 g5 => ?_⟩, fun q => by rw [decide_eq_true hx] at q; cases q⟩
    have hR' : mt_R τ.2.2 := by rw [g1.2]; exact hR
    have hl := dy_len _ _ _ g3
    have hne : ¬ nI a = -1 := ni_m1 (by omega)
    have hv := g5 a (by simp at hl; omega) hne
    simp only [mr_16 hR', mt_16 ht, nI_clamp (show a < 2 ^ 31 by omega), vp_in_eq (show a < 2 ^ 31 by omega), true_and]
    have hf := hS2 a m q τ ha rfl g1 g2 g3 g4
    rw [hv]
    exact ⟨by omega, hf⟩
  ·
    refine px_runG (h - 1) ck_92 [(30, S_isHouse)] [(17, (fun _ _ _ => False))] 24 hC (px_sp1 (m_isHouse ht (by omega)) px_nosp) (by omega) (px_cut1 (fun _ _ _ hz => hz.elim) px_nocut) (fun G Jf hG hJf => ?_)
    simp only [↓hG, ↓hJf, ↓px_go, ↓px_vc, ↓px_ex, ↓px_jp, ↓px_gi, ↓px_gl, ↓px_gr, ↓px_s1, ↓px_s2, ↓px_nl, ↓px_i1, ↓px_l1, ↓px_r1, ↓px_q1, ↓px_i2, ↓px_l2, ↓px_il, ↓px_d0, ↓px_d1, ↓px_d2, ↓px_pop, px_sz, ↓px_sp, ↓px_obj, ↓px_arr, ↓px_rd, ↓px_pt, ↓px_rok, ↓px_rv, ↓px_fill, ↓px_sl, ↓px_li, ↓px_l0, ↓px_lw, ↓px_lc, px_wi, px_wl, px_wr, px_up_at, lc_lt, lc_ge, lc_gt, lc_le, lc_eq, ↓reduceIte, Nat.reduceEqDiff, Nat.reduceLeDiff, Nat.reduceAdd, Nat.reduceSub, reduceCtorEq, List.length_cons, List.length_nil, Option.toList_some, Option.toList_none, List.cons_append, List.nil_append, true_and, and_true, false_and, and_false, true_or, or_true, false_or, or_false, and_self, or_self, not_false_eq_true, not_true_eq_false, false_implies, forall_const, true_implies, ↓bk_92, ↓pn_i92, ↓S_isHouse, mt_0 ht]
    try simp (disch := omega) only [true_and, and_true, mb_bit, mb_house, bcI_eq, px_up_row, ni_divL, ni_subL, nI_add, pk_mul, nI_leI, nI_ltI, nI_eq, vp_in_eq, nI_clamp, fa_and, fa_or, ni_bit1, ni_1s, nI_l, mb_eq0, mb_ne0, mb_eq1, h1]
    exact ⟨hR, fun q => absurd (by simpa using q) hx, fun _ => hS1 hx⟩
