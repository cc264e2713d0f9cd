/-! the model: steps -/
theorem hs_of {x : Int32} {n : Nat} (h : 0 ≤ x.toInt64.toInt ∧ x.toInt64.toInt < n) (hn : n ≤ 11) : ∃ a, a < n ∧ x = nI a := by
  rw [Int32.toInt_toInt64] at h
  refine ⟨x.toInt.toNat, by omega, ?_⟩
  apply Int32.toInt_inj.mp
  rw [nI_toInt (by omega)]
  omega
def S_steps : px_S := fun av σ k => match av with
  | [.inr (.inr (some 0)), .inl x, .inl y] => mt_R σ.2.2 ∧ tok (σ.1 1) ∧ tok2 (σ.1 1) ∧ (¬ ((0 ≤ x.toInt64.toInt ∧ x.toInt64.toInt < tN (σ.1 1)) ∧ (0 ≤ y.toInt64.toInt ∧ y.toInt64.toInt < tN (σ.1 1))) → k (some (.inl (-2))) (px_wi σ 0 0 (nI 0))) ∧ (∀ (a b : Nat) (z : Int32) (τ : px_M), a < tN (σ.1 1) → b < tN (σ.1 1) → x = nI a → y = nI b → fr 15 (px_wi σ 0 0 (nI 0)) τ → ((∃ d, d ≤ 10 ∧ (ly (tB (σ.1 1)) (tN (σ.1 1)) a d).testBit b = true ∧ z = nI d) ∨ ((rc (tB (σ.1 1)) (tN (σ.1 1)) 11 (2 ^ a)).testBit b = false ∧ z = -1)) → k (some (.inl z)) τ)
  | _ => False
theorem S_steps_sp {av : List px_V} {σ : px_M} {k : Option px_V → px_M → Prop} (h : S_steps av σ k) : ∃ x y, av = [.inr (.inr (some 0)), .inl x, .inl y] ∧ (mt_R σ.2.2 ∧ tok (σ.1 1) ∧ tok2 (σ.1 1) ∧ (¬ ((0 ≤ x.toInt64.toInt ∧ x.toInt64.toInt < tN (σ.1 1)) ∧ (0 ≤ y.toInt64.toInt ∧ y.toInt64.toInt < tN (σ.1 1))) → k (some (.inl (-2))) (px_wi σ 0 0 (nI 0))) ∧ (∀ (a b : Nat) (z : Int32) (τ : px_M), a < tN (σ.1 1) → b < tN (σ.1 1) → x = nI a → y = nI b → fr 15 (px_wi σ 0 0 (nI 0)) τ → ((∃ d, d ≤ 10 ∧ (ly (tB (σ.1 1)) (tN (σ.1 1)) a d).testBit b = true ∧ z = nI d) ∨ ((rc (tB (σ.1 1)) (tN (σ.1 1)) 11 (2 ^ a)).testBit b = false ∧ z = -1)) → k (some (.inl z)) τ)) := by
  unfold S_steps at h
  split at h
  · exact ⟨_, _, rfl, h⟩
  · exact h.elim
set_option maxHeartbeats 4000000 in
set_option maxRecDepth 100000 in
theorem m_steps {tab : px_T} (ht : mt_ok tab) {h : Nat} (hh : 3 ≤ h) : px_Ok tab pn_i39 h S_steps := by
  refine px_mth ht.1 (by decide +kernel) (fun av σ k hS => by obtain ⟨x, y, rfl, hR, htk, htk2, hS1, hS2⟩ := S_steps_sp hS; exact Nat.le_of_ble_eq_true rfl) (fun C hT hC av σ k hS => ?_)
  replace hS := S_steps_sp hS
  obtain ⟨x, y, rfl, hR, htk, htk2, hS1, hS2⟩ := hS
  subst hT
  obtain ⟨hn, h1, hnb, hlt⟩ := id htk
  refine px_runG (h - 1) ck_39 [(30, S_isHouse), (35, S_laysFar)] [] 24 hC (px_sp1 (m_isHouse ht (by omega)) (px_sp1 (m_laysFar ht (by omega)) px_nosp)) (by omega) px_nocut (fun G Jf hG hJf => ?_)
  simp only [↓hG, ↓hJf, ↓px_go, ↓px_vc, ↓px_ex, ↓px_jp, ↓px_gi, ↓px_gl, ↓px_gr, ↓px_s1, ↓px_s2, ↓px_nl, ↓px_i1, ↓px_l1, ↓px_r1, ↓px_q1, ↓px_i2, ↓px_l2, ↓px_il, ↓px_d0, ↓px_d1, ↓px_d2, ↓px_pop, px_sz, ↓px_sp, ↓px_obj, ↓px_arr, ↓px_rd, ↓px_pt, ↓px_rok, ↓px_rv, ↓px_fill, ↓px_sl, ↓px_li, ↓px_l0, ↓px_lw, ↓px_lc, px_wi, px_wl, px_wr, px_up_at, lc_lt, lc_ge, lc_gt, lc_le, lc_eq, ↓reduceIte, Nat.reduceEqDiff, Nat.reduceLeDiff, Nat.reduceAdd, Nat.reduceSub, reduceCtorEq, List.length_cons, List.length_nil, Option.toList_some, Option.toList_none, List.cons_append, List.nil_append, true_and, and_true, false_and, and_false, true_or, or_true, false_or, or_false, and_self, or_self, not_false_eq_true, not_true_eq_false, false_implies, forall_const, true_implies, ↓bk_39, ↓pn_i39, ↓S_isHouse, ↓S_laysFar, mt_0 ht, mt_1 ht, mt_15 ht, mr_1 hR, mr_15 hR]
  try simp (disch := omega) only [true_and, and_true, mb_bit, mb_house, bcI_eq, px_up_row, ni_divL, ni_subL, nI_add, pk_mul, nI_leI, nI_ltI, nI_eq, vp_in_eq, nI_clamp, fa_and, fa_or, ni_bit1, ni_1s, nI_l, mb_eq0, mb_ne0, mb_eq1, h1]
  refine ⟨hR, fun q => ?_, fun q => ⟨hR, fun q2 => ?_, fun q2 => ?_⟩⟩
  · exact hS1 (fun z => by rw [decide_eq_true z.1] at q; cases q)
  · have hx : 0 ≤ x.toInt64.toInt ∧ x.toInt64.toInt < tN (σ.1 1) := by simpa using q
    have hy : 0 ≤ y.toInt64.toInt ∧ y.toInt64.toInt < tN (σ.1 1) := by simpa using q2
    obtain ⟨a, ha, rfl⟩ := hs_of hx hn
    obtain ⟨b, hb, rfl⟩ := hs_of hy hn
    refine ⟨hR, htk, htk2, by rw [nI_clamp (by omega)], by rw [nI_clamp (by omega)]; omega, fun M τ hfr hfw hM1 hM2 => ?_⟩
    rw [nI_clamp (by omega)] at hfw hM1 hM2
    have hR' : mt_R τ.2.2 := by rw [hfr.2]; exact hR
    have hfz := fz_of htk (by omega) hfw hM1 hM2
    simp only [mr_15 hR', mt_15 ht, nI_clamp (show b < 2 ^ 31 by omega), vp_in_eq (show b < 2 ^ 31 by omega), true_and]
    refine ⟨by omega, fun q3 => ⟨by omega, ?_⟩, fun q3 => ?_⟩
    · have hM10 := ly_10 (nb := tB (σ.1 1)) (n := tN (σ.1 1)) (a := a) (by omega) (fun j hj => hlt j (by omega)) hM2
      have hfb := hfw b (by omega)
      have hle := fd_le (nb := tB (σ.1 1)) (n := tN (σ.1 1)) (a := a) b (M := M) (by omega)
      have hne : ¬ fd (tB (σ.1 1)) (tN (σ.1 1)) a M b = 99 := fun e => q3 (by rw [hfb, e])
      have hd := (fd_eq (nb := tB (σ.1 1)) (n := tN (σ.1 1)) (a := a) (by omega) (fun j hj => hlt j (by omega)) (x := b) (i := fd (tB (σ.1 1)) (tN (σ.1 1)) a M b) (by omega) (M := M) (by omega)).mp rfl
      exact hS2 a b _ τ ha hb rfl rfl hfr (Or.inl ⟨_, by omega, hd.2, hfb⟩)
    · refine hS2 a b _ τ ha hb rfl rfl hfr (Or.inr ⟨?_, rfl⟩)
      exact (fz_99 htk (by omega) hfz (by omega)).mp (by rw [q3]; exact nI_le (Nat.le_refl _) (by omega))
  · exact hS1 (fun z => by rw [decide_eq_true z.2] at q2; cases q2)
