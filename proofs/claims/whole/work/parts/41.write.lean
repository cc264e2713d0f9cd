/-! the model: write -/
def rw_c (x : Int32) : Bool := decide (lN 0 ≤ x.toInt64) && decide (x.toInt64 ≤ lN 3)
theorem rw_of {x : Int32} (h : rw_c x = true) : ∃ i, i < 4 ∧ x = nI i := by
  unfold rw_c at h
  rw [Bool.and_eq_true, decide_eq_true_eq, decide_eq_true_eq, fa_le64, fa_le64, Int32.toInt_toInt64] at h
  have e0 : (lN 0).toInt = 0 := by decide
  have e1 : (lN 3).toInt = 3 := by decide
  rw [e0, e1] at h
  refine ⟨x.toInt.toNat, by omega, ?_⟩
  apply Int32.toInt_inj.mp
  rw [nI_toInt (by omega)]
  omega
def ct (v : Int64) (w : Int32) : Int64 := if w = nI 0 then v.toInt32.toInt8.toInt32.toInt64 else if w = nI 1 then v.toInt32.toInt16.toInt32.toInt64 else if w = nI 2 then v.toInt32.toInt64 else v
def wr_c (y m : Int32) : Bool := decide (lN 0 ≤ y.toInt64) && decide (y.toInt64 ≤ (m - nI 1).toInt64)
def S_write : px_S := fun av σ k => match av with
  | [.inr (.inr (some 0)), .inl x, .inl y, .inr (.inl v)] => mt_R σ.2.2 ∧ (rw_c x = false → k (some (.inr (.inl (-2)))) (px_wi σ 0 0 (nI 0))) ∧ ∀ a, a < 4 → x = nI a → (σ.1 35 a = -1 → k (some (.inr (.inl (-6)))) (px_wi σ 0 0 (nI 0))) ∧ (¬ σ.1 35 a = -1 → wr_c y (σ.1 36 a) = false → k (some (.inr (.inl (-7)))) (px_wi σ 0 0 (nI 0))) ∧ (¬ σ.1 35 a = -1 → wr_c y (σ.1 36 a) = true → vp_in (nI 40 * nI a + y) 160 ∧ k (some (.inr (.inl (ct v (σ.1 35 a))))) (px_wl (px_wi σ 0 0 (nI 0)) 37 (nI 40 * nI a + y).toNatClampNeg (ct v (σ.1 35 a))))
  | _ => False
theorem S_write_sp {av : List px_V} {σ : px_M} {k : Option px_V → px_M → Prop} (h : S_write av σ k) : ∃ x y v, av = [.inr (.inr (some 0)), .inl x, .inl y, .inr (.inl v)] ∧ (mt_R σ.2.2 ∧ (rw_c x = false → k (some (.inr (.inl (-2)))) (px_wi σ 0 0 (nI 0))) ∧ ∀ a, a < 4 → x = nI a → (σ.1 35 a = -1 → k (some (.inr (.inl (-6)))) (px_wi σ 0 0 (nI 0))) ∧ (¬ σ.1 35 a = -1 → wr_c y (σ.1 36 a) = false → k (some (.inr (.inl (-7)))) (px_wi σ 0 0 (nI 0))) ∧ (¬ σ.1 35 a = -1 → wr_c y (σ.1 36 a) = true → vp_in (nI 40 * nI a + y) 160 ∧ k (some (.inr (.inl (ct v (σ.1 35 a))))) (px_wl (px_wi σ 0 0 (nI 0)) 37 (nI 40 * nI a + y).toNatClampNeg (ct v (σ.1 35 a))))) := by
  unfold S_write at h
  split at h
  · exact ⟨_, _, _, rfl, h⟩
  · exact h.elim
set_option maxHeartbeats 4000000 in
set_option maxRecDepth 100000 in
theorem m_write {tab : px_T} (ht : mt_ok tab) {h : Nat} (hh : 2 ≤ h) : px_Ok tab pn_i129 h S_write := by
  refine px_mth ht.1 (by decide +kernel) (fun av σ k hS => by obtain ⟨x, y, v, rfl, hR, hS1, hS2⟩ := S_write_sp hS; exact Nat.le_of_ble_eq_true rfl) (fun C hT hC av σ k hS => ?_)
  replace hS := S_write_sp hS
  obtain ⟨x, y, v, rfl, hR, hS1, hS2⟩ := hS
  subst hT
  cases hc : rw_c x with
  | false =>
    have hc2 := hc
    unfold rw_c at hc2
    refine px_runG (h - 1) ck_129 [(2, S_within)] [(21, (fun _ _ _ => False))] 24 hC (px_sp1 (m_within ht (by omega)) px_nosp) (by omega) (px_cut1 (fun _ _ _ hz => hz.elim) px_nocut) (fun G Jf hG hJf => ?_)
    simp only [↓hG, ↓hJf, ↓px_go, ↓px_vc, ↓px_ex, ↓px_jp, ↓px_gi, ↓px_gl, ↓px_gr, ↓px_s1, ↓px_s2, ↓px_nl, ↓px_i1, ↓px_l1, ↓px_r1, ↓px_q1, ↓px_i2, ↓px_l2, ↓px_il, ↓px_d0, ↓px_d1, ↓px_d2, ↓px_pop, px_sz, ↓px_sp, ↓px_obj, ↓px_arr, ↓px_rd, ↓px_pt, ↓px_rok, ↓px_rv, ↓px_fill, ↓px_sl, ↓px_li, ↓px_l0, ↓px_lw, ↓px_lc, px_wi, px_wl, px_wr, px_up_at, lc_lt, lc_ge, lc_gt, lc_le, lc_eq, ↓reduceIte, Nat.reduceEqDiff, Nat.reduceLeDiff, Nat.reduceAdd, Nat.reduceSub, reduceCtorEq, List.length_cons, List.length_nil, Option.toList_some, Option.toList_none, List.cons_append, List.nil_append, true_and, and_true, false_and, and_false, true_or, or_true, false_or, or_false, and_self, or_self, not_false_eq_true, not_true_eq_false, false_implies, forall_const, true_implies, ↓bk_129, ↓pn_i129, ↓S_within, mt_0 ht]
    try simp (disch := omega) only [true_and, and_true, mb_bit, mb_house, bcI_eq, px_up_row, ni_divL, ni_subL, nI_add, pk_mul, nI_leI, nI_ltI, nI_eq, vp_in_eq, nI_clamp, fa_and, fa_or, ni_bit1, ni_1s, nI_l, mb_eq0, mb_ne0, mb_eq1, hc2]
    first | exact hS1 hc | exact ⟨fun q => absurd rfl q, fun _ => hS1 hc⟩ | exact ⟨fun q => absurd trivial q, fun _ => hS1 hc⟩
  | true =>
    obtain ⟨a, ha, rfl⟩ := rw_of hc
    have hc2 := hc
    unfold rw_c at hc2
    rw [nI_l (by omega)] at hc2
    obtain ⟨hSa, hSb, hSc⟩ := hS2 a ha rfl
    refine px_runG (h - 1) ck_129 [(2, S_within), (127, S_cut)] [] 24 hC (px_sp1 (m_within ht (by omega)) (px_sp1 (m_cut ht (by omega)) px_nosp)) (by omega) px_nocut (fun G Jf hG hJf => ?_)
    simp only [↓hG, ↓hJf, ↓px_go, ↓px_vc, ↓px_ex, ↓px_jp, ↓px_gi, ↓px_gl, ↓px_gr, ↓px_s1, ↓px_s2, ↓px_nl, ↓px_i1, ↓px_l1, ↓px_r1, ↓px_q1, ↓px_i2, ↓px_l2, ↓px_il, ↓px_d0, ↓px_d1, ↓px_d2, ↓px_pop, px_sz, ↓px_sp, ↓px_obj, ↓px_arr, ↓px_rd, ↓px_pt, ↓px_rok, ↓px_rv, ↓px_fill, ↓px_sl, ↓px_li, ↓px_l0, ↓px_lw, ↓px_lc, px_wi, px_wl, px_wr, px_up_at, lc_lt, lc_ge, lc_gt, lc_le, lc_eq, ↓reduceIte, Nat.reduceEqDiff, Nat.reduceLeDiff, Nat.reduceAdd, Nat.reduceSub, reduceCtorEq, List.length_cons, List.length_nil, Option.toList_some, Option.toList_none, List.cons_append, List.nil_append, true_and, and_true, false_and, and_false, true_or, or_true, false_or, or_false, and_self, or_self, not_false_eq_true, not_true_eq_false, false_implies, forall_const, true_implies, ↓bk_129, ↓pn_i129, ↓S_within, ↓S_cut, mt_0 ht, mt_35 ht, mt_36 ht, mt_37 ht, mr_35 hR, mr_36 hR, mr_37 hR]
    simp (disch := omega) only [mb_eq0, mb_ne0, mb_eq1, nI_l, hc2, vp_in_eq, nI_clamp, and_self, and_true, true_and]
    refine ⟨fun _ => ⟨by omega, fun q => ⟨by omega, fun q2 => ?_, fun q2 => hSb q q2⟩, fun q => hSa q⟩, fun q => by cases q⟩
    have hf := hSc q (by cases hq : wr_c y (σ.1 36 a) with | true => rfl | false => exact absurd hq q2)
    exact ⟨by omega, hf.1, hf.1, hf.2⟩
