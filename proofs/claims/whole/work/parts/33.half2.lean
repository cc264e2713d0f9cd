/-! halves, as the model has them -/
section
variable {σ τ : px_M} {t n : Nat} {B : Nat → Nat}
def em (n : Nat) (B : Nat → Nat) (h j : Nat) : Nat := bs (fun k => decide (ds n B h k < 99 ∧ ds n B h k % 2 = 0)) j
def om (n : Nat) (B : Nat → Nat) (h j : Nat) : Nat := bs (fun k => decide (ds n B h k < 99 ∧ ds n B h k % 2 = 1)) j
def hm2 (n : Nat) (B : Nat → Nat) : Nat → Nat × Nat
  | 0 => (0, 0)
  | j + 1 => if ((hm2 n B j).1 ||| (hm2 n B j).2).testBit j then hm2 n B j else ((hm2 n B j).1 ||| em n B j n, (hm2 n B j).2 ||| om n B j n)
theorem hm2_lt : ∀ j, (hm2 n B j).1 < 2 ^ n ∧ (hm2 n B j).2 < 2 ^ n := by
  intro j
  induction j with
  | zero => exact ⟨Nat.two_pow_pos n, Nat.two_pow_pos n⟩
  | succ j ih =>
    simp only [hm2]
    split
    · exact ih
    · exact ⟨Nat.or_lt_two_pow ih.1 (bs_2n _ (Nat.le_refl _)), Nat.or_lt_two_pow ih.2 (bs_2n _ (Nat.le_refl _))⟩
theorem e_half39 (hm : mo σ n B) (hf : fr (on 15) σ τ) {h f g : Nat} (hh : h < n) (q3 : ∀ x, x < 11 → τ.1 15 x = nI (ds n B h x)) : f_44_39 tT τ 0 (nI h) (nI f) (nI g) (nI 0) = some (.inl (nI (f ||| em n B h n), nI (g ||| om n B h n), nI (h + 1), τ)) := by
  obtain ⟨hR, hw, e1, hnb⟩ := id (mo_on (by decide) hf hm)
  have hn := hw.1
  unfold f_44_39
  have := lp_to (F := fun q : Int32 × Int32 × Int32 => F_44_39 tT τ 0 (nI h) q.1 q.2.1 q.2.2) (I := fun j => (nI (f ||| em n B h j), nI (g ||| om n B h j), nI j)) (b := .inl (nI (f ||| em n B h n), nI (g ||| om n B h n), nI (h + 1), τ)) n (fun i hi => by
    have hd := ds_le (n := n) (B := B) h i
    simp (disch := omega) only [F_44_39, f_44_94, la_0, la_1, la_2, la_3, la_4, la_15, la_16, la_17, la_18, la_19, la_20, la_23, la_24, la_25, la_26, la_27, la_28, la_31, la_35, la_36, la_37, rm_0_1 hR, rm_0_2 hR, rm_0_3 hR, rm_0_4 hR, rm_0_15 hR, rm_0_16 hR, rm_0_17 hR, rm_0_18 hR, rm_0_19 hR, rm_0_20 hR, rm_0_23 hR, rm_0_24 hR, rm_0_25 hR, rm_0_26 hR, rm_0_27 hR, rm_0_28 hR, rm_0_31 hR, rm_0_35 hR, rm_0_36 hR, rm_0_37 hR, gd_tt, oA_arr, px_obj_s, Option.bind_some, Option.map_some, Option.bind_none, eq_self, true_or, or_true, px_av_0, px_av_1, px_av_2, px_av_10, px_av_11, bn, wi_1, wi_2, wl_1, wl_21, wl_22, wr_1, wr_21, wr_22, Sum.elim_inl, Sum.elim_inr, ↓reduceIte, Nat.reduceLT, Nat.reduceLeDiff, not_false_eq_true, not_true_eq_false, Nat.reduceEqDiff, Nat.reduceAdd, reduceCtorEq, and_true, true_and, and_false, false_and, false_or, or_false, true_and, and_true, ni_divL, ni_subL, nI_add, pk_mul, nI_leI, nI_ltI, nI_eq, vp_in_eq, nI_clamp, ↓ni_tst, ni_tst2, fa_and, fa_or, ni_bit1, ni_1s, nI_l, mb_eq0, mb_ne0, mb_eq1, gd_tt, gd_t, bft, e1, q3, ↓pk_rem]
    rw [if_neg (by omega)]
    by_cases h9 : ds n B h i = 99
    · rw [if_pos h9]
      simp [em, om, bs_S, h9]
    · have h99 : ds n B h i < 99 := by omega
      rw [if_neg h9]
      rcases Nat.mod_two_eq_zero_or_one (ds n B h i) with h2 | h2
      · have h3 : ds n B h i - ds n B h i / 2 * 2 = 0 := by omega
        simp [em, om, bs_S, h99, h2, h3, Nat.or_assoc]
      · have h3 : ds n B h i - ds n B h i / 2 * 2 = 1 := by omega
        simp [em, om, bs_S, h99, h2, h3, Nat.or_assoc]) (by
    simp (disch := omega) only [F_44_39, f_44_100, la_0, la_1, la_2, la_3, la_4, la_15, la_16, la_17, la_18, la_19, la_20, la_23, la_24, la_25, la_26, la_27, la_28, la_31, la_35, la_36, la_37, rm_0_1 hR, rm_0_2 hR, rm_0_3 hR, rm_0_4 hR, rm_0_15 hR, rm_0_16 hR, rm_0_17 hR, rm_0_18 hR, rm_0_19 hR, rm_0_20 hR, rm_0_23 hR, rm_0_24 hR, rm_0_25 hR, rm_0_26 hR, rm_0_27 hR, rm_0_28 hR, rm_0_31 hR, rm_0_35 hR, rm_0_36 hR, rm_0_37 hR, gd_tt, oA_arr, px_obj_s, Option.bind_some, Option.map_some, Option.bind_none, eq_self, true_or, or_true, px_av_0, px_av_1, px_av_2, px_av_10, px_av_11, bn, wi_1, wi_2, wl_1, wl_21, wl_22, wr_1, wr_21, wr_22, Sum.elim_inl, Sum.elim_inr, ↓reduceIte, Nat.reduceLT, Nat.reduceLeDiff, not_false_eq_true, not_true_eq_false, Nat.reduceEqDiff, Nat.reduceAdd, reduceCtorEq, and_true, true_and, and_false, false_and, false_or, or_false, true_and, and_true, ni_divL, ni_subL, nI_add, pk_mul, nI_leI, nI_ltI, nI_eq, vp_in_eq, nI_clamp, ↓ni_tst, ni_tst2, fa_and, fa_or, ni_bit1, ni_1s, nI_l, mb_eq0, mb_ne0, mb_eq1, gd_tt, gd_t, bft, e1]
    rw [if_pos (by omega)]) 0 (by omega)
  simpa [em, om, bs] using this
theorem e_halfOf (hm : mo σ n B) : ∃ υ, f_44 tT σ 0 = some (if fe n B (hm2 n B n).1 = true ∧ fe n B (hm2 n B n).2 = true then nI (hm2 n B n).1 else -1, υ) ∧ fr (on 15) σ υ := by
  have hw := hm.2.1
  have hn := hw.1
  have hp := pw_le hn
  unfold f_44 f_44_6
  obtain ⟨b, hb, υ, rfl, h2⟩ := lp_for (F := fun q : Int32 × Int32 × Int32 × px_M => F_44_6 tT 0 q.1 q.2.1 q.2.2.1 q.2.2.2) (fun j q => q.1 = nI (hm2 n B j).1 ∧ q.2.1 = nI (hm2 n B j).2 ∧ q.2.2.1 = nI j ∧ fr (on 15) σ q.2.2.2) (fun b => ∃ υ, b = (if fe n B (hm2 n B n).1 = true ∧ fe n B (hm2 n B n).2 = true then nI (hm2 n B n).1 else -1, υ) ∧ fr (on 15) σ υ) n (fun j q hj hI => by
    obtain ⟨x, y, z, υ⟩ := q
    obtain ⟨hx, hy, hz, g1⟩ := hI
    dsimp only at hx hy hz g1
    subst hx hy hz
    obtain ⟨b1, b2⟩ := hm2_lt (n := n) (B := B) j
    have hor : (hm2 n B j).1 ||| (hm2 n B j).2 < 2048 := or_lt (by omega) (by omega)
    have hmu := mo_on (by decide) g1 hm
    obtain ⟨hR, -, e1, -⟩ := id hmu
    cases hbit : ((hm2 n B j).1 ||| (hm2 n B j).2).testBit j
    · obtain ⟨υ', q1, q2, q3⟩ := e_laysFar hmu hj
      refine ⟨(nI (hm2 n B (j + 1)).1, nI (hm2 n B (j + 1)).2, nI (j + 1), υ'), ?_, rfl, rfl, rfl, fr_tr g1 q2⟩
      simp (disch := omega) only [F_44_6, la_0, la_1, la_2, la_3, la_4, la_15, la_16, la_17, la_18, la_19, la_20, la_23, la_24, la_25, la_26, la_27, la_28, la_31, la_35, la_36, la_37, rm_0_1 hR, rm_0_2 hR, rm_0_3 hR, rm_0_4 hR, rm_0_15 hR, rm_0_16 hR, rm_0_17 hR, rm_0_18 hR, rm_0_19 hR, rm_0_20 hR, rm_0_23 hR, rm_0_24 hR, rm_0_25 hR, rm_0_26 hR, rm_0_27 hR, rm_0_28 hR, rm_0_31 hR, rm_0_35 hR, rm_0_36 hR, rm_0_37 hR, q1, gd_tt, oA_arr, px_obj_s, Option.bind_some, Option.map_some, Option.bind_none, eq_self, true_or, or_true, px_av_0, px_av_1, px_av_2, px_av_10, px_av_11, bn, wi_1, wi_2, wl_1, wl_21, wl_22, wr_1, wr_21, wr_22, Sum.elim_inl, Sum.elim_inr, ↓reduceIte, Nat.reduceLT, Nat.reduceLeDiff, not_false_eq_true, not_true_eq_false, Nat.reduceEqDiff, Nat.reduceAdd, reduceCtorEq, and_true, true_and, and_false, false_and, false_or, or_false, true_and, and_true, ni_divL, ni_subL, nI_add, pk_mul, nI_leI, nI_ltI, nI_eq, vp_in_eq, nI_clamp, ↓ni_tst, ni_tst2, fa_and, fa_or, ni_bit1, ni_1s, nI_l, mb_eq0, mb_ne0, mb_eq1, gd_tt, gd_t, bft, e1, e_isIn, hbit]
      rw [if_neg (by omega), e_half39 hm (fr_tr g1 q2) hj q3]
      simp only [hm2, hbit, Bool.false_eq_true, ↓reduceIte]
    · refine ⟨(nI (hm2 n B (j + 1)).1, nI (hm2 n B (j + 1)).2, nI (j + 1), υ), ?_, rfl, rfl, rfl, g1⟩
      simp (disch := omega) only [F_44_6, f_44_100, la_0, la_1, la_2, la_3, la_4, la_15, la_16, la_17, la_18, la_19, la_20, la_23, la_24, la_25, la_26, la_27, la_28, la_31, la_35, la_36, la_37, rm_0_1 hR, rm_0_2 hR, rm_0_3 hR, rm_0_4 hR, rm_0_15 hR, rm_0_16 hR, rm_0_17 hR, rm_0_18 hR, rm_0_19 hR, rm_0_20 hR, rm_0_23 hR, rm_0_24 hR, rm_0_25 hR, rm_0_26 hR, rm_0_27 hR, rm_0_28 hR, rm_0_31 hR, rm_0_35 hR, rm_0_36 hR, rm_0_37 hR, gd_tt, oA_arr, px_obj_s, Option.bind_some, Option.map_some, Option.bind_none, eq_self, true_or, or_true, px_av_0, px_av_1, px_av_2, px_av_10, px_av_11, bn, wi_1, wi_2, wl_1, wl_21, wl_22, wr_1, wr_21, wr_22, Sum.elim_inl, Sum.elim_inr, ↓reduceIte, Nat.reduceLT, Nat.reduceLeDiff, not_false_eq_true, not_true_eq_false, Nat.reduceEqDiff, Nat.reduceAdd, reduceCtorEq, and_true, true_and, and_false, false_and, false_or, or_false, true_and, and_true, ni_divL, ni_subL, nI_add, pk_mul, nI_leI, nI_ltI, nI_eq, vp_in_eq, nI_clamp, ↓ni_tst, ni_tst2, fa_and, fa_or, ni_bit1, ni_1s, nI_l, mb_eq0, mb_ne0, mb_eq1, gd_tt, gd_t, bft, e1, e_isIn, hbit]
      rw [if_neg (by omega)]
      simp only [hm2, hbit, ↓reduceIte]) (fun q hI => by
    obtain ⟨x, y, z, υ⟩ := q
    obtain ⟨hx, hy, hz, g1⟩ := hI
    dsimp only at hx hy hz g1
    subst hx hy hz
    obtain ⟨b1, b2⟩ := hm2_lt (n := n) (B := B) n
    have hmu := mo_on (by decide) g1 hm
    obtain ⟨hR, -, e1, -⟩ := id hmu
    refine ⟨_, ?_, υ, rfl, g1⟩
    simp (disch := omega) only [F_44_6, f_44_126, la_0, la_1, la_2, la_3, la_4, la_15, la_16, la_17, la_18, la_19, la_20, la_23, la_24, la_25, la_26, la_27, la_28, la_31, la_35, la_36, la_37, rm_0_1 hR, rm_0_2 hR, rm_0_3 hR, rm_0_4 hR, rm_0_15 hR, rm_0_16 hR, rm_0_17 hR, rm_0_18 hR, rm_0_19 hR, rm_0_20 hR, rm_0_23 hR, rm_0_24 hR, rm_0_25 hR, rm_0_26 hR, rm_0_27 hR, rm_0_28 hR, rm_0_31 hR, rm_0_35 hR, rm_0_36 hR, rm_0_37 hR, gd_tt, oA_arr, px_obj_s, Option.bind_some, Option.map_some, Option.bind_none, eq_self, true_or, or_true, px_av_0, px_av_1, px_av_2, px_av_10, px_av_11, bn, wi_1, wi_2, wl_1, wl_21, wl_22, wr_1, wr_21, wr_22, Sum.elim_inl, Sum.elim_inr, ↓reduceIte, Nat.reduceLT, Nat.reduceLeDiff, not_false_eq_true, not_true_eq_false, Nat.reduceEqDiff, Nat.reduceAdd, reduceCtorEq, and_true, true_and, and_false, false_and, false_or, or_false, true_and, and_true, ni_divL, ni_subL, nI_add, pk_mul, nI_leI, nI_ltI, nI_eq, vp_in_eq, nI_clamp, ↓ni_tst, ni_tst2, fa_and, fa_or, ni_bit1, ni_1s, nI_l, mb_eq0, mb_ne0, mb_eq1, gd_tt, gd_t, bft, e1, e_isFeast hmu]
    rw [if_pos (by omega)]
    cases f1 : fe n B (hm2 n B n).1
    · simp
    · cases f2 : fe n B (hm2 n B n).2
      · simp
      · simp) 0 (nI 0, nI 0, nI 0, σ) (by omega) ⟨rfl, rfl, rfl, fr_rf _ _⟩
  exact ⟨υ, hb, h2⟩
theorem em_eE (hw : wf n B) {c : Nat → Bool} (hc : ∀ x y, (B x).testBit y = true → c x ≠ c y) {h : Nat} (hh : h < n) : em n B h n = eE B n h ∧ om n B h n = eO B n h := by
  have par : ∀ m x, (wk B n h m).testBit x = true → ∃ d, d % 2 = m % 2 ∧ d < 99 ∧ (ly B n h d).testBit x = true := by
    intro m x hx
    obtain ⟨d, d1, d2, d3⟩ := ly_ex hw hh hx
    refine ⟨d, ?_, by omega, d3⟩
    have e1 := two_walk hc m x hx
    have e2 := two_walk hc d x ((ly_wk hw hh d x).mp d3).1
    rw [e1] at e2
    by_cases hm : m % 2 = 0 <;> by_cases hd : d % 2 = 0 <;> simp [hm, hd] at e2 <;> omega
  constructor
  · apply tb_eq
    intro x
    unfold em
    rw [bs_tb, eE_iff hw hh]
    simp only [Bool.and_eq_true, decide_eq_true_eq]
    constructor
    · rintro ⟨h1, h2, h3⟩
      exact ⟨ds n B h x, h3, ((ly_wk hw hh _ x).mp ((ds_eq hw hh x h2).mp rfl)).1⟩
    · rintro ⟨m, h1, h2⟩
      obtain ⟨d, d1, d2, d3⟩ := par m x h2
      have := (ds_eq hw hh x d2).mpr d3
      exact ⟨wk_in hw hh h2, by omega, by omega⟩
  · apply tb_eq
    intro x
    unfold om
    rw [bs_tb, eO_iff hw hh]
    simp only [Bool.and_eq_true, decide_eq_true_eq]
    constructor
    · rintro ⟨h1, h2, h3⟩
      exact ⟨ds n B h x, h3, ((ly_wk hw hh _ x).mp ((ds_eq hw hh x h2).mp rfl)).1⟩
    · rintro ⟨m, h1, h2⟩
      obtain ⟨d, d1, d2, d3⟩ := par m x h2
      have := (ds_eq hw hh x d2).mpr d3
      exact ⟨wk_in hw hh h2, by omega, by omega⟩
theorem hm2_cov (hw : wf n B) : ∀ j, j ≤ n → ∀ x, x < j → ((hm2 n B j).1 ||| (hm2 n B j).2).testBit x = true := by
  intro j
  induction j with
  | zero => intro _ x hx; omega
  | succ j ih =>
    intro hj x hx
    simp only [hm2]
    split
    · rename_i hb
      by_cases hxj : x = j
      · subst hxj; exact hb
      · exact ih (by omega) x (by omega)
    · dsimp only
      rw [Nat.testBit_or, Nat.testBit_or, Nat.testBit_or]
      by_cases hxj : x = j
      · subst hxj
        have : (em n B x n).testBit x = true := by
          unfold em
          rw [bs_tb]
          have h0 := (ds_eq hw (show x < n by omega) x (i := 0) (by omega)).mpr (ly_00 x)
          simp [h0]
          omega
        simp [this]
      · have := ih (by omega) x (by omega)
        rw [Nat.testBit_or, Bool.or_eq_true] at this
        rcases this with h | h <;> simp [h]
theorem fe_no {f : Nat} (hw : wf n B) (hf : fe n B f = true) {x y : Nat} (hxy : (B x).testBit y = true) (hx : f.testBit x = true) (hy : f.testBit y = true) : False := by
  have := fe_iff.mp hf x (wf_l hw hxy) hx
  have h2 : (B x &&& f).testBit y = true := by rw [Nat.testBit_and, hxy, hy]; rfl
  rw [this] at h2
  simp at h2
theorem half_eq (hw : wf n B) : (if fe n B (hm2 n B n).1 = true ∧ fe n B (hm2 n B n).2 = true then nI (hm2 n B n).1 else -1) = match fh B n (2 ^ n - 1) n with | none => -1 | some p => nI p.1 := by
  have hs : ∀ x y, (B x).testBit y = true → (2 ^ n - 1).testBit x = true := fun x y h => by rw [tb_all, decide_eq_true (wf_l hw h)]
  have h2 := fh_two hw hs
  cases hq : fh B n (2 ^ n - 1) n with
  | none =>
    rw [if_neg]
    rintro ⟨f1, f2⟩
    have : two B := ⟨fun x => (hm2 n B n).1.testBit x, fun x y hxy q => by
      have cx := hm2_cov hw n (Nat.le_refl _) x (wf_l hw hxy)
      have cy := hm2_cov hw n (Nat.le_refl _) y (wf_r hw hxy)
      rw [Nat.testBit_or, Bool.or_eq_true] at cx cy
      dsimp only at q
      cases h1 : (hm2 n B n).1.testBit x with
      | true => rw [h1] at q; exact fe_no hw f1 hxy h1 q.symm
      | false =>
        rw [h1] at q
        rw [h1] at cx
        rw [← q] at cy
        exact fe_no hw f2 hxy (by simpa using cx) (by simpa using cy)⟩
    exact h2.mpr this hq
  | some p =>
    obtain ⟨c, hc⟩ := h2.mp (by rw [hq]; simp)
    have key : ∀ j, j ≤ n → fh B n (2 ^ n - 1) j = some (hm2 n B j) := by
      intro j
      induction j with
      | zero => intro _; rfl
      | succ j ih =>
        intro hj
        have hi := ih (by omega)
        obtain ⟨e1, e2⟩ := em_eE hw hc (show j < n by omega)
        cases hb : ((hm2 n B j).1 ||| (hm2 n B j).2).testBit j with
        | true =>
          have hb' := hb
          rw [Nat.testBit_or, Bool.or_eq_true] at hb'
          simp only [fh, hi, hm2, hb, ↓reduceIte]
          rw [if_neg]
          rintro ⟨-, q1, q2⟩
          rcases hb' with h | h
          · rw [q1] at h; cases h
          · rw [q2] at h; cases h
        | false =>
          have hb' := hb
          rw [Nat.testBit_or, Bool.or_eq_false_iff] at hb'
          have hne : fh B n (2 ^ n - 1) (j + 1) ≠ none := fun q => by
            have := fh_none q hj
            rw [hq] at this
            cases this
          have hcd : (2 ^ n - 1).testBit j = true ∧ (hm2 n B j).1.testBit j = false ∧ (hm2 n B j).2.testBit j = false := ⟨by rw [tb_all, decide_eq_true (by omega)], hb'.1, hb'.2⟩
          simp only [fh, hi, hm2, hb, Bool.false_eq_true, ↓reduceIte] at hne ⊢
          rw [if_pos hcd] at hne ⊢
          by_cases hEO : eE B n j &&& eO B n j = 0
          · rw [if_pos hEO, e1, e2]
          · rw [if_neg hEO] at hne
            exact absurd rfl hne
    have hn := key n (Nat.le_refl _)
    rw [hq] at hn
    obtain ⟨i1, i2, i3, -⟩ := fh_spec hw hs n (Nat.le_refl _) p hq
    have hpe : p = hm2 n B n := by cases hn; rfl
    rw [← hpe, if_pos]
    constructor
    · refine fe_iff.mpr (fun a ha hpa => ?_)
      apply tb_eq
      intro y
      rw [Nat.testBit_and, Nat.zero_testBit, Bool.and_eq_true]
      exact ⟨fun q => absurd ⟨q.2, i2 a y q.1 hpa⟩ (i1 y), fun q => by cases q⟩
    · refine fe_iff.mpr (fun a ha hpa => ?_)
      apply tb_eq
      intro y
      rw [Nat.testBit_and, Nat.zero_testBit, Bool.and_eq_true]
      exact ⟨fun q => absurd ⟨i3 a y q.1 hpa, q.2⟩ (i1 y), fun q => by cases q⟩
/-- the first half, or none -/
def hv (n : Nat) (B : Nat → Nat) : Int32 := match fh B n (2 ^ n - 1) n with
  | none => -1
  | some p => nI p.1
theorem e_half (hm : mo σ n B) : ∃ υ, f_44 tT σ 0 = some (hv n B, υ) ∧ fr (on 15) σ υ := by
  obtain ⟨υ, q1, q2⟩ := e_halfOf hm
  rw [half_eq hm.2.1] at q1
  exact ⟨υ, q1, q2⟩
theorem c_hv (hc : ct σ t n B) : f_11031 tT σ t (nI (2 ^ n - 1)) = some (hv n B) := by
  have := c_half hc (s := 2 ^ n - 1) (by have := Nat.two_pow_pos n; omega)
  rw [rs_all hc.2.2.2.1] at this
  exact this
theorem a_halves (hc : cl σ n B) : agQ (f_12025 tT σ 100) (fun τ => f_83 tT τ 0) n B := by
  obtain ⟨hR, ht⟩ := hc
  refine ⟨hv n B, ?_, fun τ hm => ?_⟩
  · simp only [f_12025, la_100, la_102, la_103, la_104, la_105, la_110, la_111, la_112, la_113, la_114, la_115, la_116, la_117, la_120, la_121, la_122, la_123, la_124, la_125, la_126, la_127, la_130, la_131, la_132, la_133, la_134, la_135, la_136, la_137, la_140, la_141, la_142, la_143, la_144, la_145, la_146, la_147, la_150, la_151, la_152, la_153, la_160, la_161, la_170, la_171, la_172, la_173, la_174, la_180, la_181, la_182, la_183, la_184, la_185, la_186, la_190, la_191, la_192, la_193, la_194, la_195, la_200, la_201, la_202, la_210, la_211, la_212, la_213, la_214, la_215, la_216, la_217, la_218, la_219, la_220, la_221, la_222, la_223, la_224, la_225, la_226, la_230, la_231, la_232, la_233, la_234, la_240, la_241, rc_100_0 hR, rc_100_1 hR, rc_100_2 hR, rc_100_3 hR, rc_100_4 hR, rc_100_5 hR, rc_100_6 hR, rc_100_7 hR, rc_100_8 hR, rc_100_9 hR, rc_100_10 hR, rc_100_11 hR, rc_100_12 hR, rc_100_13 hR, rc_100_14 hR, rc_100_15 hR, rc_111_1 hR, rc_113_1 hR, rc_113_2 hR, rc_113_3 hR, rc_110_0 hR, rc_110_1 hR, rc_110_5 hR, rc_121_1 hR, rc_123_1 hR, rc_123_2 hR, rc_123_3 hR, rc_120_0 hR, rc_120_1 hR, rc_120_5 hR, rc_131_1 hR, rc_133_1 hR, rc_133_2 hR, rc_133_3 hR, rc_130_0 hR, rc_130_1 hR, rc_130_5 hR, rc_141_1 hR, rc_143_1 hR, rc_143_2 hR, rc_143_3 hR, rc_140_0 hR, rc_140_1 hR, rc_140_5 hR, rc_150_3 hR, rc_150_4 hR, rc_150_5 hR, rc_150_6 hR, rc_160_0 hR, rc_173_1 hR, rc_170_0 hR, rc_170_1 hR, rc_181_0 hR, rc_185_1 hR, rc_180_0 hR, rc_180_1 hR, rc_180_2 hR, rc_192_1 hR, rc_194_1 hR, rc_190_0 hR, rc_201_1 hR, rc_200_0 hR, rc_214_1 hR, rc_211_0 hR, rc_211_1 hR, rc_216_1 hR, rc_221_1 hR, rc_221_2 hR, rc_221_3 hR, rc_225_1 hR, rc_210_0 hR, rc_210_1 hR, rc_210_2 hR, rc_210_3 hR, rc_210_4 hR, rc_231_1 hR, rc_233_1 hR, rc_230_0 hR, rc_230_1 hR, rc_240_1 hR, gd_tt, oA_arr, px_obj_s, Option.bind_some, Option.map_some, Option.bind_none, eq_self, true_or, or_true, px_av_0, px_av_1, px_av_2, px_av_10, px_av_11, bn, wi_1, wi_2, wl_1, wl_21, wl_22, wr_1, wr_21, wr_22, Sum.elim_inl, Sum.elim_inr, ↓reduceIte, Nat.reduceLT, Nat.reduceLeDiff, not_false_eq_true, not_true_eq_false, Nat.reduceEqDiff, Nat.reduceAdd, reduceCtorEq, and_true, true_and, and_false, false_and, false_or, or_false, c_all ht, c_hv ht]
  · obtain ⟨υ, q1, q2⟩ := e_half (mo_thr hm)
    refine ⟨υ, ?_, fr_tr (fr_thr (fr_rf _ _)) (fr_15 q2)⟩
    simp only [f_83, la_0, gd_tt, oA_arr, px_obj_s, Option.bind_some, Option.map_some, Option.bind_none, eq_self, true_or, or_true, px_av_0, px_av_1, px_av_2, px_av_10, px_av_11, bn, wi_1, wi_2, wl_1, wl_21, wl_22, wr_1, wr_21, wr_22, Sum.elim_inl, Sum.elim_inr, ↓reduceIte, Nat.reduceLT, Nat.reduceLeDiff, not_false_eq_true, not_true_eq_false, Nat.reduceEqDiff, Nat.reduceAdd, reduceCtorEq, and_true, true_and, and_false, false_and, false_or, or_false, q1]
end
