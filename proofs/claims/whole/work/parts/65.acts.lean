/-! acts of a row: what is against one, what it does -/
theorem l_nn {v : Int64} (h : ¬ v < lN 0) : ∃ k, k < 2 ^ 63 ∧ v = lN k := by
  have h1 : 0 ≤ v.toInt := by
    rw [Int64.lt_iff_toInt_lt, pf_lI (by decide)] at h
    omega
  have h2 := Int64.toInt_lt v
  refine ⟨v.toInt.toNat, by omega, ?_⟩
  apply Int64.toInt_inj.mp
  rw [pf_lI (by omega)]
  omega
theorem l_div {k : Nat} (hk : k < 2 ^ 63) : lN k / lN 100 = lN (k / 100) := by
  apply Int64.toInt_inj.mp
  rw [Int64.toInt_div, pf_lI hk, pf_lI (by decide), pf_lI (by omega), Int.tdiv_eq_ediv_of_nonneg (by omega)]
  rw [Int.bmod_eq_of_le (by omega) (by omega)]
  omega
theorem l_mod {k : Nat} (hk : k < 2 ^ 63) : lN k - lN k / lN 100 * lN 100 = lN (k % 100) := by
  rw [l_div hk]
  have hm : lN (k / 100) * lN 100 = lN (k / 100 * 100) := by
    apply Int64.toInt_inj.mp
    rw [Int64.toInt_mul, pf_lI (a := k / 100) (by omega), pf_lI (a := 100) (by decide), pf_lI (a := k / 100 * 100) (by omega), Int.bmod_eq_of_le (by omega) (by omega)]
    omega
  rw [hm]
  apply Int64.toInt_inj.mp
  rw [Int64.toInt_sub, pf_lI hk, pf_lI (a := k / 100 * 100) (by omega), pf_lI (a := k % 100) (by omega), Int.bmod_eq_of_le (by omega) (by omega)]
  omega
/-- an act: the pair of houses it names -/
def acp (n : Nat) (v : Int64) (a b : Nat) : Prop := a < n ∧ b < n ∧ a ≠ b ∧ v = lN (100 * a + b)
theorem lN_inj {a b : Nat} (ha : a < 2 ^ 63) (hb : b < 2 ^ 63) (h : lN a = lN b) : a = b := by
  have := congrArg Int64.toInt h
  rw [pf_lI ha, pf_lI hb] at this
  omega
theorem acp_uniq {n : Nat} (hn : n ≤ 11) {v : Int64} {a b a' b' : Nat} (h1 : acp n v a b) (h2 : acp n v a' b') : a = a' ∧ b = b' := by
  obtain ⟨x1, x2, x3, rfl⟩ := h1
  obtain ⟨y1, y2, y3, y4⟩ := h2
  have := lN_inj (by omega) (by omega) y4
  omega
def tdB (B : Nat → Nat) (a b : Nat) : Nat → Nat := if (B a).testBit b = true then wl B a b else jn B a b
/-- the pair as numbers -/
def av1 (v : Int64) : Nat := v.toInt.toNat / 100
def bv1 (v : Int64) : Nat := v.toInt.toNat % 100
theorem av_eq {n : Nat} (hn : n ≤ 11) {v : Int64} {a b : Nat} (h : acp n v a b) : av1 v = a ∧ bv1 v = b := by
  obtain ⟨x1, x2, x3, rfl⟩ := h
  unfold av1 bv1
  rw [pf_lI (by omega), Int.toNat_natCast]
  omega
/-- what is against an act; the town when it is done -/
noncomputable def rac (n : Nat) (B : Nat → Nat) (nr : Nat) (S C : Nat → Nat) (v : Int64) : Nat := if av1 v < n ∧ bv1 v < n ∧ av1 v ≠ bv1 v ∧ v = lN (100 * av1 v + bv1 v) then (if (B (av1 v)).testBit (bv1 v) = true then 0 else rj n B nr S C (av1 v) (bv1 v)) else 1
def tdx (n : Nat) (B : Nat → Nat) (v : Int64) : Nat → Nat := if av1 v < n ∧ bv1 v < n ∧ av1 v ≠ bv1 v ∧ v = lN (100 * av1 v + bv1 v) then tdB B (av1 v) (bv1 v) else B
section
variable {σ τ : px_M} {T n nr d : Nat} {B S C : Nat → Nat} {G : Nat → Nat → Int32}
theorem rac_in (hn : n ≤ 11) {v : Int64} {a b : Nat} (h : acp n v a b) : rac n B nr S C v = if (B a).testBit b = true then 0 else rj n B nr S C a b := by
  obtain ⟨e1, e2⟩ := av_eq hn h
  unfold rac
  rw [e1, e2, if_pos (show a < n ∧ b < n ∧ a ≠ b ∧ v = lN (100 * a + b) from h)]
theorem tdx_in (hn : n ≤ 11) {v : Int64} {a b : Nat} (h : acp n v a b) : tdx n B v = tdB B a b := by
  obtain ⟨e1, e2⟩ := av_eq hn h
  unfold tdx
  rw [e1, e2, if_pos (show a < n ∧ b < n ∧ a ≠ b ∧ v = lN (100 * a + b) from h)]
theorem ac_cases (hn : n ≤ 11) (v : Int64) : (∃ a b, acp n v a b) ∨ (∀ a b, ¬ acp n v a b) := by
  by_cases h : ∃ a b, acp n v a b
  · exact Or.inl h
  · exact Or.inr (fun a b q => h ⟨a, b, q⟩)
theorem rac_out {v : Int64} (h : ∀ a b, ¬ acp n v a b) : rac n B nr S C v = 1 := by unfold rac; rw [if_neg (show ¬ (av1 v < n ∧ bv1 v < n ∧ av1 v ≠ bv1 v ∧ v = lN (100 * av1 v + bv1 v)) from h _ _)]
theorem rac_le (v : Int64) : rac n B nr S C v ≤ 4 := by
  unfold rac
  repeat' split
  · omega
  · exact rj_le
  · omega
theorem rac_0 {v : Int64} (h : rac n B nr S C v = 0) : acp n v (av1 v) (bv1 v) := by
  unfold rac at h
  by_cases q : acp n v (av1 v) (bv1 v)
  · exact q
  · rw [if_neg (show ¬ (av1 v < n ∧ bv1 v < n ∧ av1 v ≠ bv1 v ∧ v = lN (100 * av1 v + bv1 v)) from q)] at h; omega
theorem wf_tdB (hw : wf n B) {a b : Nat} (ha : a < n) (hb : b < n) (hab : a ≠ b) : wf n (tdB B a b) := by
  unfold tdB
  split
  · exact wf_wl hw hab
  · exact wf_jn hw ha hb hab
theorem n100 : ¬ nI 100 = nI 0 := by decide
theorem l100 : ¬ lN 100 = lN 0 := by decide
theorem c_act (hR : cR σ.2.2) (hcr : cru σ 113 nr S C) (hru : rul nr S C) (hT : outT T) (hc : ct σ T n B) (v : Int64) : ∃ υ, f_12064 tT σ 100 T v = some (nI (rac n B nr S C v), υ) ∧ fr CS σ υ := by
  have hn := hc.2.2.2.1.1
  have core : ∀ k, k < 1100 → v = lN k → (∃ υ, f_12064_30 tT σ 100 T (nI (k / 100)) (nI (k % 100)) = some (nI (rac n B nr S C v), υ) ∧ fr CS σ υ) → ∃ υ, f_12064 tT σ 100 T v = some (nI (rac n B nr S C v), υ) ∧ fr CS σ υ := by
    rintro k hk rfl ⟨υ, q1, q2⟩
    refine ⟨υ, ?_, q2⟩
    have a1 : ¬ lN k < lN 0 := by rw [fa_lt64, pf_lI (by omega), pf_lI (by omega)]; omega
    have a2 : lN k < lN 1100 := by rw [fa_lt64, pf_lI (by omega), pf_lI (by omega)]; omega
    have s1 : nI k - nI (k / 100 * 100) = nI (k % 100) := by rw [ni_subL (by omega)]; congr 1; omega
    simp only [f_12064, f_12064_23, a1, a2, ↓reduceIte, n100, not_false_eq_true, gd_tt, nI_lI (show k < 2 ^ 31 by omega), ni_divL (show k < 2 ^ 31 by omega) (show 0 < 100 by decide) (show 100 < 2 ^ 31 by decide), pk_mul, s1, q1]
  rcases ac_cases hn v with ⟨a, b, h⟩ | h
  · obtain ⟨ha, hb, hab, hv⟩ := id h
    refine core (100 * a + b) (by omega) hv ?_
    rw [show (100 * a + b) / 100 = a by omega, show (100 * a + b) % 100 = b by omega, rac_in hn h]
    have p1 := c_isPair hc (a := a) (b := b) (by omega) (by omega)
    rw [decide_eq_true ⟨ha, hb, hab⟩, mb_t1] at p1
    have p2 := c_linked hc ha hb
    cases hq : (B a).testBit b with
    | true =>
      rw [hq, mb_t1] at p2
      refine ⟨σ, ?_, fr_rf _ _⟩
      simp only [f_12064_30, hc.1, gd_tt, oA_arr, px_obj_s, Option.bind_some, Option.map_some, Option.bind_none, eq_self, true_or, or_true, px_av_0, px_av_1, px_av_2, px_av_10, px_av_11, bn, wi_1, wi_2, wl_1, wl_21, wl_22, wr_1, wr_21, wr_22, Sum.elim_inl, Sum.elim_inr, ↓reduceIte, Nat.reduceLT, Nat.reduceLeDiff, not_false_eq_true, not_true_eq_false, Nat.reduceEqDiff, Nat.reduceAdd, reduceCtorEq, and_true, true_and, and_false, false_and, false_or, or_false, p1, n10, p2]
    | false =>
      rw [hq, mb_f0] at p2
      obtain ⟨ρ, q1, q2, q3⟩ := c_convene hR hcr hru hT hc
      obtain ⟨υ, w1, w2, -⟩ := c_rj q3 ha hb hab
      refine ⟨υ, ?_, fr_tr q2 w2⟩
      simp only [f_12064_30, f_12064_61, hc.1, la_100, la_210, gd_tt, oA_arr, px_obj_s, Option.bind_some, Option.map_some, Option.bind_none, eq_self, true_or, or_true, px_av_0, px_av_1, px_av_2, px_av_10, px_av_11, bn, wi_1, wi_2, wl_1, wl_21, wl_22, wr_1, wr_21, wr_22, Sum.elim_inl, Sum.elim_inr, ↓reduceIte, Nat.reduceLT, Nat.reduceLeDiff, not_false_eq_true, not_true_eq_false, Nat.reduceEqDiff, Nat.reduceAdd, reduceCtorEq, and_true, true_and, and_false, false_and, false_or, or_false, p1, n10, p2, q1, rc_100_10 q3.1.1, w1, Bool.false_eq_true]
  · rw [rac_out h]
    by_cases a1 : v < lN 0
    · exact ⟨σ, by simp only [f_12064, a1, ↓reduceIte], fr_rf _ _⟩
    · obtain ⟨k, hk, rfl⟩ := l_nn a1
      by_cases a2 : lN k < lN 1100
      · have hk2 : k < 1100 := by rw [fa_lt64, pf_lI hk, pf_lI (by omega)] at a2; omega
        have := core k hk2 rfl ⟨σ, by
          have p1 := c_isPair hc (a := k / 100) (b := k % 100) (by omega) (by omega)
          rw [decide_eq_false (fun q => h (k / 100) (k % 100) ⟨q.1, q.2.1, q.2.2, by rw [show 100 * (k / 100) + k % 100 = k by omega]⟩), mb_f0] at p1
          rw [rac_out h]
          simp only [f_12064_30, hc.1, gd_tt, oA_arr, px_obj_s, Option.bind_some, Option.map_some, Option.bind_none, eq_self, true_or, or_true, px_av_0, px_av_1, px_av_2, px_av_10, px_av_11, bn, wi_1, wi_2, wl_1, wl_21, wl_22, wr_1, wr_21, wr_22, Sum.elim_inl, Sum.elim_inr, ↓reduceIte, Nat.reduceLT, Nat.reduceLeDiff, not_false_eq_true, not_true_eq_false, Nat.reduceEqDiff, Nat.reduceAdd, reduceCtorEq, and_true, true_and, and_false, false_and, false_or, or_false, p1], fr_rf _ _⟩
        rw [rac_out h] at this
        exact this
      · exact ⟨σ, by simp only [f_12064, a1, a2, ↓reduceIte], fr_rf _ _⟩
theorem c_turnD (hc : ct σ T n B) {v : Int64} {a b : Nat} (h : acp n v a b) : ∃ υ, f_12065 tT σ T v = some υ ∧ fr (tw2 T) σ υ ∧ ct υ T n (tdB B a b) := by
  have hn := hc.2.2.2.1.1
  obtain ⟨ha, hb, hab, rfl⟩ := id h
  have p2 := c_linked hc ha hb
  have e1 : nI (100 * a + b) / nI 100 = nI a := by rw [ni_divL (by omega) (by decide) (by decide)]; congr 1; omega
  have s1 : nI (100 * a + b) - nI (a * 100) = nI b := by rw [ni_subL (by omega)]; congr 1; omega
  unfold tdB
  cases hq : (B a).testBit b with
  | true =>
    rw [hq, mb_t1] at p2
    obtain ⟨υ, q1, q2, q3⟩ := c_part hc ha hb hab
    refine ⟨υ, ?_, q2, q3⟩
    simp only [f_12065, f_12065_6, f_12065_13, hc.1, gd_tt, oA_arr, px_obj_s, Option.bind_some, Option.map_some, Option.bind_none, eq_self, true_or, or_true, px_av_0, px_av_1, px_av_2, px_av_10, px_av_11, bn, wi_1, wi_2, wl_1, wl_21, wl_22, wr_1, wr_21, wr_22, Sum.elim_inl, Sum.elim_inr, ↓reduceIte, Nat.reduceLT, Nat.reduceLeDiff, not_false_eq_true, not_true_eq_false, Nat.reduceEqDiff, Nat.reduceAdd, reduceCtorEq, and_true, true_and, and_false, false_and, false_or, or_false, n100, nI_lI (show 100 * a + b < 2 ^ 31 by omega), e1, pk_mul, s1, p2, n10, q1]
  | false =>
    rw [hq, mb_f0] at p2
    obtain ⟨υ, q1, q2, q3⟩ := c_link hc ha hb hab
    refine ⟨υ, ?_, q2, q3⟩
    simp only [f_12065, f_12065_6, f_12065_13, hc.1, gd_tt, oA_arr, px_obj_s, Option.bind_some, Option.map_some, Option.bind_none, eq_self, true_or, or_true, px_av_0, px_av_1, px_av_2, px_av_10, px_av_11, bn, wi_1, wi_2, wl_1, wl_21, wl_22, wr_1, wr_21, wr_22, Sum.elim_inl, Sum.elim_inr, ↓reduceIte, Nat.reduceLT, Nat.reduceLeDiff, not_false_eq_true, not_true_eq_false, Nat.reduceEqDiff, Nat.reduceAdd, reduceCtorEq, and_true, true_and, and_false, false_and, false_or, or_false, n100, nI_lI (show 100 * a + b < 2 ^ 31 by omega), e1, pk_mul, s1, p2, q1]
/-- what acts may change of the model, but for its town and past -/
def RA1 (l j : Nat) : Bool := RQ l j || (l == 0 && j == 21)
theorem SM_RA1 : ∀ l j, SM l j = false → RA1 l j = false := fun l j h => by
  cases hq : RA1 l j with
  | false => rfl
  | true =>
    simp only [RA1, Bool.or_eq_true, Bool.and_eq_true, beq_iff_eq] at hq
    rcases hq with hq | ⟨rfl, rfl⟩
    · rw [SM_RQ l j h] at hq; cases hq
    · simp [SM] at h
theorem RA1_RQ : ∀ l j, RA1 l j = false → RQ l j = false := fun l j h => by
  simp only [RA1, Bool.or_eq_false_iff] at h; exact h.1
/-- one act of the model: weighed -/
theorem e_act (hm : mor σ n B nr S C) (hru : rul nr S C) (x1 x2 x3 : Int32) (v : Int64) : ∃ ω, fk RA1 σ ω ∧ ω.1 0 21 = nI (rac n B nr S C v) ∧ ((∃ a b, acp n v a b ∧ f_72_38 tT σ 0 x1 x2 x3 v (v / lN 100) = f_72_145 tT ω 0 x1 x2 x3 (lN a) (lN b) (mb ((B a).testBit b))) ∨ (rac n B nr S C v = 1 ∧ ∃ a b, f_72_38 tT σ 0 x1 x2 x3 v (v / lN 100) = f_72_145 tT ω 0 x1 x2 x3 a b (nI 0))) := by
  have hn := hm.1.2.1.1
  have hw := hm.1.2.1
  have w21 : ∀ {ρ : px_M} (z : Int32), fk RA1 σ ρ → fk RA1 σ (px_wi ρ 0 21 z) := fun z h => fk_tr h (fk_of (fr_wi (fr_rf _ _) _ rfl) (fun _ => rfl))
  rcases ac_cases hn v with ⟨a, b, h⟩ | h
  · obtain ⟨ha, hb, hab, rfl⟩ := id h
    have a1 : ¬ lN (100 * a + b) < lN 0 := by rw [fa_lt64, pf_lI (by omega), pf_lI (by omega)]; omega
    have e1 := l_div (k := 100 * a + b) (by omega)
    have e2 := l_mod (k := 100 * a + b) (by omega)
    rw [e1, show (100 * a + b) / 100 = a by omega]
    rw [show (100 * a + b) % 100 = b by omega] at e2
    have p1 := e_hs hm.1 ha
    have p2 := e_hs hm.1 hb
    rw [nI_l (by omega)] at p1 p2
    have hne : ¬ lN a = lN b := fun q => hab (lN_inj (by omega) (by omega) q)
    have k1 := e_near hm.1 (show a < 11 by omega)
    have hBa := wf_2048 hw a
    have k3 := e_isIn σ (s := B a) (j := b) (by omega) (by omega)
    have l1 : (lN a).toInt32 = nI a := nI_lI (by omega)
    have l2 : (lN b).toInt32 = nI b := nI_lI (by omega)
    have l3 : (nI (B a)).toInt64 = lN (B a) := nI_l (by omega)
    rw [rac_in hn h]
    cases hq : (B a).testBit b with
    | true =>
      rw [hq, mb_t1] at k3
      refine ⟨px_wi σ 0 21 (nI 0), w21 _ (fk_rf _ _), wi_s _ _ _ _, Or.inl ⟨a, b, h, ?_⟩⟩
      simp only [f_72_38, f_72_46, f_72_79, f_72_115, l100, e2, a1, la_0, gd_tt, oA_arr, px_obj_s, Option.bind_some, Option.map_some, Option.bind_none, eq_self, true_or, or_true, px_av_0, px_av_1, px_av_2, px_av_10, px_av_11, bn, wi_1, wi_2, wl_1, wl_21, wl_22, wr_1, wr_21, wr_22, Sum.elim_inl, Sum.elim_inr, ↓reduceIte, Nat.reduceLT, Nat.reduceLeDiff, not_false_eq_true, not_true_eq_false, Nat.reduceEqDiff, Nat.reduceAdd, reduceCtorEq, and_true, true_and, and_false, false_and, false_or, or_false, p1, p2, n10, hne, l1, l2, k1, l3, k3, mb_t1, hq]
    | false =>
      rw [hq, mb_f0] at k3
      obtain ⟨ρ, q1, q2⟩ := e_rj hm.1 hru hm.2 ha hb hab
      refine ⟨px_wi ρ 0 21 (nI (rj n B nr S C a b)), w21 _ (fk_mono q2 RA1_RQ), ?_, Or.inl ⟨a, b, h, ?_⟩⟩
      · rw [if_neg (by simp)]; exact wi_s _ _ _ _
      · simp only [f_72_38, f_72_46, f_72_79, f_72_112, f_72_115, l100, e2, a1, la_0, gd_tt, oA_arr, px_obj_s, Option.bind_some, Option.map_some, Option.bind_none, eq_self, true_or, or_true, px_av_0, px_av_1, px_av_2, px_av_10, px_av_11, bn, wi_1, wi_2, wl_1, wl_21, wl_22, wr_1, wr_21, wr_22, Sum.elim_inl, Sum.elim_inr, ↓reduceIte, Nat.reduceLT, Nat.reduceLeDiff, not_false_eq_true, not_true_eq_false, Nat.reduceEqDiff, Nat.reduceAdd, reduceCtorEq, and_true, true_and, and_false, false_and, false_or, or_false, p1, p2, n10, hne, l1, l2, k1, l3, k3, q1, mb_f0, hq]
  · refine ⟨px_wi σ 0 21 (nI 1), w21 _ (fk_rf _ _), by rw [rac_out h]; exact wi_s _ _ _ _, Or.inr ⟨rac_out h, v / lN 100, v - v / lN 100 * lN 100, ?_⟩⟩
    by_cases a1 : v < lN 0
    · simp only [f_72_38, f_72_46, f_72_83, f_72_112, f_72_115, l100, a1, la_0, gd_tt, oA_arr, px_obj_s, Option.bind_some, Option.map_some, Option.bind_none, eq_self, true_or, or_true, px_av_0, px_av_1, px_av_2, px_av_10, px_av_11, bn, wi_1, wi_2, wl_1, wl_21, wl_22, wr_1, wr_21, wr_22, Sum.elim_inl, Sum.elim_inr, ↓reduceIte, Nat.reduceLT, Nat.reduceLeDiff, not_false_eq_true, not_true_eq_false, Nat.reduceEqDiff, Nat.reduceAdd, reduceCtorEq, and_true, true_and, and_false, false_and, false_or, or_false]
    · obtain ⟨k, hk, rfl⟩ := l_nn a1
      have e1 := l_div hk
      have e2 := l_mod hk
      rw [e2, e1]
      have p1 := e_isHouse hm.1 (lN (k / 100))
      have p2 := e_isHouse hm.1 (lN (k % 100))
      rw [pf_lI (by omega)] at p1 p2
      by_cases h1 : k / 100 < n
      · rw [decide_eq_true (by omega), mb_t1] at p1
        by_cases h2 : k % 100 < n
        · rw [decide_eq_true (by omega), mb_t1] at p2
          have h3 : k / 100 = k % 100 := by
            apply Classical.byContradiction
            intro q
            exact h _ _ ⟨h1, h2, q, by rw [show 100 * (k / 100) + k % 100 = k by omega]⟩
          have h4 : (lN (k / 100) = lN (k % 100)) = True := eq_true (by rw [h3])
          simp only [f_72_38, f_72_46, f_72_83, f_72_112, f_72_115, l100, e2, a1, la_0, gd_tt, oA_arr, px_obj_s, Option.bind_some, Option.map_some, Option.bind_none, eq_self, true_or, or_true, px_av_0, px_av_1, px_av_2, px_av_10, px_av_11, bn, wi_1, wi_2, wl_1, wl_21, wl_22, wr_1, wr_21, wr_22, Sum.elim_inl, Sum.elim_inr, ↓reduceIte, Nat.reduceLT, Nat.reduceLeDiff, not_false_eq_true, not_true_eq_false, Nat.reduceEqDiff, Nat.reduceAdd, reduceCtorEq, and_true, true_and, and_false, false_and, false_or, or_false, p1, p2, n10, h4]
        · rw [decide_eq_false (by omega), mb_f0] at p2
          simp only [f_72_38, f_72_46, f_72_83, f_72_112, f_72_115, l100, e2, a1, la_0, gd_tt, oA_arr, px_obj_s, Option.bind_some, Option.map_some, Option.bind_none, eq_self, true_or, or_true, px_av_0, px_av_1, px_av_2, px_av_10, px_av_11, bn, wi_1, wi_2, wl_1, wl_21, wl_22, wr_1, wr_21, wr_22, Sum.elim_inl, Sum.elim_inr, ↓reduceIte, Nat.reduceLT, Nat.reduceLeDiff, not_false_eq_true, not_true_eq_false, Nat.reduceEqDiff, Nat.reduceAdd, reduceCtorEq, and_true, true_and, and_false, false_and, false_or, or_false, p1, p2, n10]
      · rw [decide_eq_false (by omega), mb_f0] at p1
        simp only [f_72_38, f_72_46, f_72_83, f_72_112, f_72_115, l100, e2, a1, la_0, gd_tt, oA_arr, px_obj_s, Option.bind_some, Option.map_some, Option.bind_none, eq_self, true_or, or_true, px_av_0, px_av_1, px_av_2, px_av_10, px_av_11, bn, wi_1, wi_2, wl_1, wl_21, wl_22, wr_1, wr_21, wr_22, Sum.elim_inl, Sum.elim_inr, ↓reduceIte, Nat.reduceLT, Nat.reduceLeDiff, not_false_eq_true, not_true_eq_false, Nat.reduceEqDiff, Nat.reduceAdd, reduceCtorEq, and_true, true_and, and_false, false_and, false_or, or_false, p1]
end
