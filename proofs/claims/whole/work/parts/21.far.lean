/-! the model: how far -/
section
variable {σ τ : px_M} {n : Nat} {B : Nat → Nat}
theorem mo_on {k : Nat} (hk : k ≠ 0 ∧ k ≠ 1) (h : fr (on k) σ τ) (hm : mo σ n B) : mo τ n B := mo_fr h (fun j => by simp only [on, beq_eq_false_iff_ne]; exact fun q => hk.2 q.symm) hm
theorem on_t (k j : Nat) : on k k j = true := by simp [on]
theorem up_s {f : Nat → Nat → Int32} {l i j : Nat} {v : Int32} : px_up f l i v l j = if j = i then v else f l j := by simp [px_up]
theorem e_far109 (hm : mo σ n B) (hf : fr (on 15) σ τ) {L S m : Nat} (hL : L < 2048) : ∃ υ, f_35_109 tT 0 (nI L) (nI S) (nI m) (nI 0) τ = some (.inl (nI L, nI S, nI m, υ)) ∧ fr (on 15) σ υ ∧ ∀ h, h < 11 → υ.1 15 h = if h < n ∧ L.testBit h = true then nI m else τ.1 15 h := by
  have hn := hm.2.1.1
  unfold f_35_109
  obtain ⟨b, hb, υ, rfl, h2, h3⟩ := lp_for (F := fun s : Int32 × px_M => F_35_109 tT 0 (nI L) (nI S) (nI m) s.1 s.2) (fun j s => s.1 = nI j ∧ fr (on 15) σ s.2 ∧ ∀ h, h < 11 → s.2.1 15 h = if h < j ∧ L.testBit h = true then nI m else τ.1 15 h) (fun b => ∃ υ, b = .inl (nI L, nI S, nI m, υ) ∧ fr (on 15) σ υ ∧ ∀ h, h < 11 → υ.1 15 h = if h < n ∧ L.testBit h = true then nI m else τ.1 15 h) n (fun j s hj hI => by
      obtain ⟨x, υ⟩ := s
      obtain ⟨hx, h1, h2⟩ := hI
      dsimp only at hx h1 h2
      subst hx
      obtain ⟨hR, hw, e1, hnb⟩ := id (mo_on (by decide) h1 hm)
      simp (disch := omega) only [F_35_109, f_35_139, f_35_103, f_35_99, f_35_86, f_35_35, la_0, la_1, la_2, la_3, la_4, la_15, la_16, la_17, la_18, la_19, la_20, la_23, la_24, la_25, la_26, la_27, la_28, la_31, la_35, la_36, la_37, rm_0_1 hR, rm_0_2 hR, rm_0_3 hR, rm_0_4 hR, rm_0_15 hR, rm_0_16 hR, rm_0_17 hR, rm_0_18 hR, rm_0_19 hR, rm_0_20 hR, rm_0_23 hR, rm_0_24 hR, rm_0_25 hR, rm_0_26 hR, rm_0_27 hR, rm_0_28 hR, rm_0_31 hR, rm_0_35 hR, rm_0_36 hR, rm_0_37 hR, gd_tt, oA_arr, px_obj_s, Option.bind_some, Option.map_some, Option.bind_none, eq_self, true_or, or_true, px_av_0, px_av_1, px_av_2, px_av_10, px_av_11, bn, wi_1, wi_2, wl_1, wl_21, wl_22, wr_1, wr_21, wr_22, Sum.elim_inl, Sum.elim_inr, ↓reduceIte, Nat.reduceLT, Nat.reduceLeDiff, not_false_eq_true, not_true_eq_false, Nat.reduceEqDiff, Nat.reduceAdd, reduceCtorEq, and_true, true_and, and_false, false_and, false_or, or_false, true_and, and_true, ni_divL, ni_subL, nI_add, pk_mul, nI_leI, nI_ltI, nI_eq, vp_in_eq, nI_clamp, ↓ni_tst, ni_tst2, fa_and, fa_or, ni_bit1, ni_1s, nI_l, mb_eq0, mb_ne0, mb_eq1, gd_tt, gd_t, bft, e1, e_isIn]
      rw [if_neg (by omega)]
      cases hb : L.testBit j
      · refine ⟨(nI (j + 1), υ), by simp, rfl, h1, fun h hh => ?_⟩
        rw [h2 h hh]
        by_cases hhj : h = j
        · subst hhj; simp [hb]
        · simp only [show h < j + 1 ↔ h < j by omega]
      · refine ⟨(nI (j + 1), px_wi υ 15 j (nI m)), by simp, rfl, fr_wi h1 _ (on_t _ _), fun h hh => ?_⟩
        show px_up υ.1 15 j (nI m) 15 h = _
        rw [up_s, h2 h hh]
        by_cases hhj : h = j
        · subst hhj; simp [hb]
        · simp only [show h < j + 1 ↔ h < j by omega, if_neg hhj]) (fun s hI => by
      obtain ⟨x, υ⟩ := s
      obtain ⟨hx, h1, h2⟩ := hI
      dsimp only at hx h1 h2
      subst hx
      obtain ⟨hR, hw, e1, hnb⟩ := id (mo_on (by decide) h1 hm)
      simp (disch := omega) only [F_35_109, f_35_139, f_35_103, f_35_99, f_35_86, f_35_35, la_0, la_1, la_2, la_3, la_4, la_15, la_16, la_17, la_18, la_19, la_20, la_23, la_24, la_25, la_26, la_27, la_28, la_31, la_35, la_36, la_37, rm_0_1 hR, rm_0_2 hR, rm_0_3 hR, rm_0_4 hR, rm_0_15 hR, rm_0_16 hR, rm_0_17 hR, rm_0_18 hR, rm_0_19 hR, rm_0_20 hR, rm_0_23 hR, rm_0_24 hR, rm_0_25 hR, rm_0_26 hR, rm_0_27 hR, rm_0_28 hR, rm_0_31 hR, rm_0_35 hR, rm_0_36 hR, rm_0_37 hR, gd_tt, oA_arr, px_obj_s, Option.bind_some, Option.map_some, Option.bind_none, eq_self, true_or, or_true, px_av_0, px_av_1, px_av_2, px_av_10, px_av_11, bn, wi_1, wi_2, wl_1, wl_21, wl_22, wr_1, wr_21, wr_22, Sum.elim_inl, Sum.elim_inr, ↓reduceIte, Nat.reduceLT, Nat.reduceLeDiff, not_false_eq_true, not_true_eq_false, Nat.reduceEqDiff, Nat.reduceAdd, reduceCtorEq, and_true, true_and, and_false, false_and, false_or, or_false, true_and, and_true, ni_divL, ni_subL, nI_add, pk_mul, nI_leI, nI_ltI, nI_eq, vp_in_eq, nI_clamp, ↓ni_tst, ni_tst2, fa_and, fa_or, ni_bit1, ni_1s, nI_l, mb_eq0, mb_ne0, mb_eq1, gd_tt, gd_t, bft, e1]
      rw [if_pos (by omega)]
      exact ⟨_, rfl, υ, rfl, h1, h2⟩) 0 (nI 0, τ) (by omega) ⟨rfl, hf, fun h _ => by simp⟩
  exact ⟨υ, hb, h2, h3⟩
theorem e_far50 (hm : mo σ n B) (hf : fr (on 15) σ τ) {a m : Nat} (ha : a < n) (hm9 : m < 100) (hfd : ∀ h, h < 11 → τ.1 15 h = nI (fd B n a m h)) : ∃ υ, f_35_50 tT τ 0 (nI (ly B n a m)) (nI (rc B n m (2 ^ a))) (nI m) (nI 0) (nI 0) = some (.inl (nI (ly B n a (m + 1)), nI (rc B n (m + 1) (2 ^ a)), nI (m + 1), υ)) ∧ fr (on 15) σ υ ∧ ∀ h, h < 11 → υ.1 15 h = nI (fd B n a (m + 1) h) := by
  obtain ⟨hR, hw, e1, hnb⟩ := id (mo_on (by decide) hf hm)
  have hm' := mo_on (by decide) hf hm
  have hn := hw.1
  have ha11 := Nat.lt_of_lt_of_le ha hn
  have hltn : ∀ j, j < n → B j < 2048 := fun j _ => wf_2048 hw j
  have hl := ly_lt ha11 hltn m
  have hl1 := ly_lt ha11 hltn (m + 1)
  obtain ⟨υ, q1, q2, q3⟩ := e_far109 (S := rc B n (m + 1) (2 ^ a)) (m := m + 1) hm hf hl1
  refine ⟨υ, ?_, q2, fun h hh => ?_⟩
  · unfold f_35_50
    refine lp_to (I := fun j => (nI (ar B j (ly B n a m)), nI j)) n (fun i hi => ?_) ?_ 0 (by omega)
    · simp (disch := omega) only [F_35_50, f_35_86, la_0, la_1, la_2, la_3, la_4, la_15, la_16, la_17, la_18, la_19, la_20, la_23, la_24, la_25, la_26, la_27, la_28, la_31, la_35, la_36, la_37, rm_0_1 hR, rm_0_2 hR, rm_0_3 hR, rm_0_4 hR, rm_0_15 hR, rm_0_16 hR, rm_0_17 hR, rm_0_18 hR, rm_0_19 hR, rm_0_20 hR, rm_0_23 hR, rm_0_24 hR, rm_0_25 hR, rm_0_26 hR, rm_0_27 hR, rm_0_28 hR, rm_0_31 hR, rm_0_35 hR, rm_0_36 hR, rm_0_37 hR, gd_tt, oA_arr, px_obj_s, Option.bind_some, Option.map_some, Option.bind_none, eq_self, true_or, or_true, px_av_0, px_av_1, px_av_2, px_av_10, px_av_11, bn, wi_1, wi_2, wl_1, wl_21, wl_22, wr_1, wr_21, wr_22, Sum.elim_inl, Sum.elim_inr, ↓reduceIte, Nat.reduceLT, Nat.reduceLeDiff, not_false_eq_true, not_true_eq_false, Nat.reduceEqDiff, Nat.reduceAdd, reduceCtorEq, and_true, true_and, and_false, false_and, false_or, or_false, true_and, and_true, ni_divL, ni_subL, nI_add, pk_mul, nI_leI, nI_ltI, nI_eq, vp_in_eq, nI_clamp, ↓ni_tst, ni_tst2, fa_and, fa_or, ni_bit1, ni_1s, nI_l, mb_eq0, mb_ne0, mb_eq1, gd_tt, gd_t, bft, e1, e_near hm', e_isIn]
      rw [if_neg (by omega)]
      cases hb : (ly B n a m).testBit i
      · simp [ar, hb]
      · simp [ar, hb]
    · have hal : ar B n (ly B n a m) < 2048 := ar_lt hltn
      simp (disch := omega) only [F_35_50, f_35_99, f_35_103, la_0, la_1, la_2, la_3, la_4, la_15, la_16, la_17, la_18, la_19, la_20, la_23, la_24, la_25, la_26, la_27, la_28, la_31, la_35, la_36, la_37, rm_0_1 hR, rm_0_2 hR, rm_0_3 hR, rm_0_4 hR, rm_0_15 hR, rm_0_16 hR, rm_0_17 hR, rm_0_18 hR, rm_0_19 hR, rm_0_20 hR, rm_0_23 hR, rm_0_24 hR, rm_0_25 hR, rm_0_26 hR, rm_0_27 hR, rm_0_28 hR, rm_0_31 hR, rm_0_35 hR, rm_0_36 hR, rm_0_37 hR, gd_tt, oA_arr, px_obj_s, Option.bind_some, Option.map_some, Option.bind_none, eq_self, true_or, or_true, px_av_0, px_av_1, px_av_2, px_av_10, px_av_11, bn, wi_1, wi_2, wl_1, wl_21, wl_22, wr_1, wr_21, wr_22, Sum.elim_inl, Sum.elim_inr, ↓reduceIte, Nat.reduceLT, Nat.reduceLeDiff, not_false_eq_true, not_true_eq_false, Nat.reduceEqDiff, Nat.reduceAdd, reduceCtorEq, and_true, true_and, and_false, false_and, false_or, or_false, true_and, and_true, ni_divL, ni_subL, nI_add, pk_mul, nI_leI, nI_ltI, nI_eq, vp_in_eq, nI_clamp, ↓ni_tst, ni_tst2, fa_and, fa_or, ni_bit1, ni_1s, nI_l, mb_eq0, mb_ne0, mb_eq1, gd_tt, gd_t, bft, e1, ni_nd, ly_next ha11 hltn, rc_next ha11 hltn]
      rw [if_pos (by omega), q1]
      rfl
  · rw [q3 h hh, hfd h hh]
    show _ = nI (if (ly B n a (m + 1)).testBit h then m + 1 else fd B n a m h)
    cases hb : (ly B n a (m + 1)).testBit h
    · simp
    · have : h < n := ly_in ha11 hltn (fun j hj => hw.2.1 j) hb
      simp [this]
theorem e_laysFar (hm : mo σ n B) {a : Nat} (ha : a < n) : ∃ υ, f_35 tT σ 0 (nI a) = some (nI (ec n B a), υ) ∧ fr (on 15) σ υ ∧ ∀ h, h < 11 → υ.1 15 h = nI (ds n B a h) := by
  have hn := hm.2.1.1
  have hw := hm.2.1
  have ha11 := Nat.lt_of_lt_of_le ha hn
  have hltn : ∀ j, j < n → B j < 2048 := fun j _ => wf_2048 hw j
  have hec := ec_spec hw ha
  have hfs : fd B n a (ec n B a + 1) = ds n B a := funext fun x => by rw [fd_stay hw ha x 1, fd_ec hw ha]
  generalize ec n B a = M at *
  -- the levels
  have lv : ∀ τ, fr (on 15) σ τ → (∀ h, h < 11 → τ.1 15 h = nI (fd B n a 0 h)) → ∃ υ, f_35_40 tT 0 (nI (2 ^ a)) (nI (2 ^ a)) (nI 0) τ = some (nI (M), υ) ∧ fr (on 15) σ υ ∧ ∀ h, h < 11 → υ.1 15 h = nI (ds n B a h) := by
    intro τ hf h0
    unfold f_35_40
    obtain ⟨b, hb, υ, rfl, h2, h3⟩ := lp_for (F := fun s : Int32 × Int32 × Int32 × px_M => F_35_40 tT 0 s.1 s.2.1 s.2.2.1 s.2.2.2) (fun m s => s.1 = nI (ly B n a m) ∧ s.2.1 = nI (rc B n m (2 ^ a)) ∧ s.2.2.1 = nI m ∧ fr (on 15) σ s.2.2.2 ∧ ∀ h, h < 11 → s.2.2.2.1 15 h = nI (fd B n a m h)) (fun b => ∃ υ, b = (nI (M), υ) ∧ fr (on 15) σ υ ∧ ∀ h, h < 11 → υ.1 15 h = nI (ds n B a h)) (M + 1) (fun m s hj hI => by
        obtain ⟨x, y, z, υ⟩ := s
        obtain ⟨hx, hy, hz, h1, h2⟩ := hI
        simp only at hx hy hz h1 h2
        subst hx hy hz
        have hl := ly_lt ha11 hltn m
        have hne : ¬ ly B n a m = 0 := by
          cases m with
          | zero => exact ly_0 B n a
          | succ m => exact hec.2.2 m (by omega)
        obtain ⟨υ', q1, q2, q3⟩ := e_far50 hm h1 ha (m := m) (by omega) h2
        refine ⟨(nI (ly B n a (m + 1)), nI (rc B n (m + 1) (2 ^ a)), nI (m + 1), υ'), ?_, rfl, rfl, rfl, q2, q3⟩
        show F_35_40 tT 0 (nI (ly B n a m)) (nI (rc B n m (2 ^ a))) (nI m) υ = _
        unfold F_35_40
        rw [if_neg (by rw [nI_eq (by omega) (by omega)]; exact hne), q1]) (fun s hI => by
        obtain ⟨x, y, z, υ⟩ := s
        obtain ⟨hx, hy, hz, h1, h2⟩ := hI
        simp only at hx hy hz h1 h2
        subst hx hy hz
        refine ⟨_, ?_, υ, rfl, h1, fun h hh => ?_⟩
        · show F_35_40 tT 0 (nI (ly B n a (M + 1))) (nI (rc B n (M + 1) (2 ^ a))) (nI (M + 1)) υ = _
          unfold F_35_40
          rw [if_pos (by rw [hec.2.1]), ni_subL (by omega), Nat.add_sub_cancel]
        · rw [h2 h hh, hfs]) 0 (nI (2 ^ a), nI (2 ^ a), nI 0, τ) (by omega) ⟨rfl, rfl, rfl, hf, h0⟩
    exact ⟨υ, hb, h2, h3⟩
  unfold f_35 f_35_2
  obtain ⟨b, hb, υ, rfl, h2, h3⟩ := lp_for (F := fun s : Int32 × px_M => F_35_2 tT 0 (nI a) s.1 s.2) (fun j s => s.1 = nI j ∧ fr (on 15) σ s.2 ∧ ∀ h, h < j → s.2.1 15 h = nI (fd B n a 0 h)) (fun b => ∃ υ, b = (nI (M), υ) ∧ fr (on 15) σ υ ∧ ∀ h, h < 11 → υ.1 15 h = nI (ds n B a h)) 11 (fun j s hj hI => by
      obtain ⟨x, υ⟩ := s
      obtain ⟨hx, h1, h2⟩ := hI
      dsimp only at hx h1 h2
      subst hx
      have hR := (mo_on (by decide) h1 hm).1
      simp (disch := omega) only [F_35_2, la_0, la_1, la_2, la_3, la_4, la_15, la_16, la_17, la_18, la_19, la_20, la_23, la_24, la_25, la_26, la_27, la_28, la_31, la_35, la_36, la_37, rm_0_1 hR, rm_0_2 hR, rm_0_3 hR, rm_0_4 hR, rm_0_15 hR, rm_0_16 hR, rm_0_17 hR, rm_0_18 hR, rm_0_19 hR, rm_0_20 hR, rm_0_23 hR, rm_0_24 hR, rm_0_25 hR, rm_0_26 hR, rm_0_27 hR, rm_0_28 hR, rm_0_31 hR, rm_0_35 hR, rm_0_36 hR, rm_0_37 hR, gd_tt, oA_arr, px_obj_s, Option.bind_some, Option.map_some, Option.bind_none, eq_self, true_or, or_true, px_av_0, px_av_1, px_av_2, px_av_10, px_av_11, bn, wi_1, wi_2, wl_1, wl_21, wl_22, wr_1, wr_21, wr_22, Sum.elim_inl, Sum.elim_inr, ↓reduceIte, Nat.reduceLT, Nat.reduceLeDiff, not_false_eq_true, not_true_eq_false, Nat.reduceEqDiff, Nat.reduceAdd, reduceCtorEq, and_true, true_and, and_false, false_and, false_or, or_false, true_and, and_true, ni_divL, ni_subL, nI_add, pk_mul, nI_leI, nI_ltI, nI_eq, vp_in_eq, nI_clamp, ↓ni_tst, ni_tst2, fa_and, fa_or, ni_bit1, ni_1s, nI_l, mb_eq0, mb_ne0, mb_eq1, gd_tt, gd_t, bft]
      rw [if_neg (by omega)]
      by_cases hja : j = a
      · rw [if_pos hja]
        refine ⟨(nI (j + 1), px_wi υ 15 j (nI 0)), rfl, rfl, fr_wi h1 _ (on_t _ _), fun h hh => ?_⟩
        show px_up υ.1 15 j (nI 0) 15 h = _
        rw [up_s]
        by_cases hhj : h = j
        · subst hhj; simp [fd, hja]
        · rw [if_neg hhj]; exact h2 h (by omega)
      · rw [if_neg hja]
        refine ⟨(nI (j + 1), px_wi υ 15 j (nI 99)), rfl, rfl, fr_wi h1 _ (on_t _ _), fun h hh => ?_⟩
        show px_up υ.1 15 j (nI 99) 15 h = _
        rw [up_s]
        by_cases hhj : h = j
        · subst hhj; simp [fd, hja]
        · rw [if_neg hhj]; exact h2 h (by omega)) (fun s hI => by
      obtain ⟨x, υ⟩ := s
      obtain ⟨hx, h1, h2⟩ := hI
      dsimp only at hx h1 h2
      subst hx
      obtain ⟨υ', q1, q2, q3⟩ := lv υ h1 h2
      simp (disch := omega) only [F_35_2, f_35_35, la_0, la_1, la_2, la_3, la_4, la_15, la_16, la_17, la_18, la_19, la_20, la_23, la_24, la_25, la_26, la_27, la_28, la_31, la_35, la_36, la_37, gd_tt, oA_arr, px_obj_s, Option.bind_some, Option.map_some, Option.bind_none, eq_self, true_or, or_true, px_av_0, px_av_1, px_av_2, px_av_10, px_av_11, bn, wi_1, wi_2, wl_1, wl_21, wl_22, wr_1, wr_21, wr_22, Sum.elim_inl, Sum.elim_inr, ↓reduceIte, Nat.reduceLT, Nat.reduceLeDiff, not_false_eq_true, not_true_eq_false, Nat.reduceEqDiff, Nat.reduceAdd, reduceCtorEq, and_true, true_and, and_false, false_and, false_or, or_false, true_and, and_true, ni_divL, ni_subL, nI_add, pk_mul, nI_leI, nI_ltI, nI_eq, vp_in_eq, nI_clamp, ↓ni_tst, ni_tst2, fa_and, fa_or, ni_bit1, ni_1s, nI_l, mb_eq0, mb_ne0, mb_eq1, gd_tt, gd_t, bft]
      rw [q1]
      exact ⟨_, rfl, υ', rfl, q2, q3⟩) 0 (nI 0, σ) (by omega) ⟨rfl, fr_rf _ _, fun h hh => absurd hh (by omega)⟩
  exact ⟨υ, hb, h2, h3⟩
end
