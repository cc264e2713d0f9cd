/-! the first answer along a row -/
def fo {β : Type} (p : Nat → Option β) : Nat → Option β
  | 0 => none
  | n + 1 => match fo p n with
    | none => p n
    | some r => some r
theorem fo_none {β : Type} {p : Nat → Option β} : ∀ {n : Nat}, (∀ i, i < n → p i = none) → fo p n = none := by
  intro n
  induction n with
  | zero => intro _; rfl
  | succ n ih => intro h; simp only [fo]; rw [ih (fun i hi => h i (by omega))]; exact h n (by omega)
theorem fo_some {β : Type} {p : Nat → Option β} {i : Nat} {r : β} (hp : p i = some r) (hb : ∀ j, j < i → p j = none) : ∀ {n : Nat}, i < n → fo p n = some r := by
  intro n
  induction n with
  | zero => intro h; omega
  | succ n ih =>
    intro h
    simp only [fo]
    by_cases hn : i < n
    · rw [ih hn]
    · have : i = n := by omega
      subst this
      rw [fo_none hb]
      exact hp
theorem fo_congr {β : Type} {p q : Nat → Option β} : ∀ {n : Nat}, (∀ i, i < n → p i = q i) → fo p n = fo q n := by
  intro n
  induction n with
  | zero => intro _; rfl
  | succ n ih => intro h; simp only [fo]; rw [ih (fun i hi => h i (by omega)), h n (by omega)]
/-- a loop that may end early: its state is known while nothing is found -/
theorem lp_fo {α β : Type} {F : α → Option (α ⊕ β)} (I : Nat → α) (p : Nat → Option β) (e : β) (n lo : Nat) (hlo : ∀ i, i < lo → p i = none) (st : ∀ i, lo ≤ i → i < n → F (I i) = some (match p i with | none => .inl (I (i + 1)) | some r => .inr r)) (en : F (I n) = some (.inr e)) (hl : lo ≤ n) : lpO F (I lo) = some ((fo p n).getD e) := by
  have key : ∀ m i, i + m = n → lo ≤ i → (∀ j, j < i → p j = none) → lpO F (I i) = some ((fo p n).getD e) := by
    intro m
    induction m with
    | zero =>
      intro i hi _ hn
      have : i = n := by omega
      subst this
      rw [lpO_eq, en, fo_none hn]; rfl
    | succ m ih =>
      intro i hi hli hn
      rw [lpO_eq, st i hli (by omega)]
      cases hp : p i with
      | none =>
        show lpO F (I (i + 1)) = _
        refine ih (i + 1) (by omega) (by omega) (fun j hj => ?_)
        by_cases hji : j = i
        · subst hji; exact hp
        · exact hn j (by omega)
      | some r =>
        rw [fo_some hp hn (by omega)]; rfl
  exact key (n - lo) lo (by omega) (Nat.le_refl _) hlo
/-- a number is a house's, or none's -/
theorem hs_cases (v : Int32) {n : Nat} (hn : n ≤ 11) : (∃ k, k < n ∧ v = nI k) ∨ ¬ (0 ≤ v.toInt ∧ v.toInt < n) := by
  by_cases h : 0 ≤ v.toInt ∧ v.toInt < n
  · left
    refine ⟨v.toInt.toNat, by omega, ?_⟩
    apply Int32.toInt_inj.mp
    rw [nI_toInt (by omega)]
    omega
  · exact Or.inr h
theorem rc_in {n : Nat} {B : Nat → Nat} (hw : wf n B) {a m x : Nat} (ha : a < n) (h : (rc B n m (2 ^ a)).testBit x = true) : x < n := by
  obtain ⟨j, -, h2⟩ := (rc_wk a x m).mp h
  exact wk_in hw ha h2
theorem ly_inn {n : Nat} {B : Nat → Nat} (hw : wf n B) {a m x : Nat} (ha : a < n) (h : (ly B n a m).testBit x = true) : x < n := wk_in hw ha ((ly_wk hw ha m x).mp h).1
theorem tb_ff {s i n : Nat} (h : s.testBit i = true → i < n) (hi : n ≤ i) : s.testBit i = false := by
  cases hb : s.testBit i with
  | false => rfl
  | true => exact absurd (h hb) (by omega)
theorem SM_15 : ∀ l j, SM l j = false → on 15 l j = false := by
  intro l j h
  simp only [on, beq_eq_false_iff_ne]
  intro q
  subst q
  simp [SM] at h
theorem fr_15 {σ τ : px_M} (h : fr (on 15) σ τ) : fr SM σ τ := fr_mono h SM_15
theorem fr_thr {σ τ : px_M} (h : fr SM σ τ) : fr SM σ (px_wi τ 0 0 (nI 0)) := fr_wi h _ rfl
theorem mo_thr {σ : px_M} {n : Nat} {B : Nat → Nat} (hm : mo σ n B) : mo (px_wi σ 0 0 (nI 0)) n B := mo_SM (fr_thr (fr_rf _ _)) hm
section
variable {σ τ : px_M} {n : Nat} {B : Nat → Nat}
/-! the model: what is reached -/
theorem e_reached (hm : mo σ n B) {a : Nat} (ha : a < n) : ∃ υ, f_36 tT σ 0 (nI a) = some (nI (rc B n 11 (2 ^ a)), υ) ∧ fr (on 15) σ υ := by
  obtain ⟨υ, q1, q2, q3⟩ := e_laysFar hm ha
  obtain ⟨hR, hw, e1, hnb⟩ := id (mo_on (by decide) q2 hm)
  have hn := hw.1
  refine ⟨υ, ?_, q2⟩
  have hs : bs (fun h => decide (ds n B a h < 99)) n = rc B n 11 (2 ^ a) := bs_eq (fun i hi => by
    have := ds_99 hw ha i
    cases hb : (rc B n 11 (2 ^ a)).testBit i with
    | true => exact (decide_eq_true (this.mpr hb)).symm
    | false => exact (decide_eq_false (fun q => by rw [this.mp q] at hb; cases hb)).symm) (fun i hi => tb_ff (rc_in hw ha) hi)
  simp (disch := omega) only [f_36, la_0, q1, gd_tt, oA_arr, px_obj_s, Option.bind_some, Option.map_some, Option.bind_none, eq_self, true_or, or_true, px_av_0, px_av_1, px_av_2, px_av_10, px_av_11, bn, wi_1, wi_2, wl_1, wl_21, wl_22, wr_1, wr_21, wr_22, Sum.elim_inl, Sum.elim_inr, ↓reduceIte, Nat.reduceLT, Nat.reduceLeDiff, not_false_eq_true, not_true_eq_false, Nat.reduceEqDiff, Nat.reduceAdd, reduceCtorEq, and_true, true_and, and_false, false_and, false_or, or_false, true_and, and_true, ni_divL, ni_subL, nI_add, pk_mul, nI_leI, nI_ltI, nI_eq, vp_in_eq, nI_clamp, ↓ni_tst, ni_tst2, fa_and, fa_or, ni_bit1, ni_1s, nI_l, mb_eq0, mb_ne0, mb_eq1, gd_tt, gd_t, bft]
  rw [← hs]
  unfold f_36_10
  refine lp_to (I := fun j => (nI (bs (fun h => decide (ds n B a h < 99)) j), nI j)) n (fun i hi => ?_) ?_ 0 (by omega)
  · have := ds_le (n := n) (B := B) a i
    simp (disch := omega) only [F_36_10, f_36_41, la_0, la_1, la_2, la_3, la_4, la_15, la_16, la_17, la_18, la_19, la_20, la_23, la_24, la_25, la_26, la_27, la_28, la_31, la_35, la_36, la_37, rm_0_1 hR, rm_0_2 hR, rm_0_3 hR, rm_0_4 hR, rm_0_15 hR, rm_0_16 hR, rm_0_17 hR, rm_0_18 hR, rm_0_19 hR, rm_0_20 hR, rm_0_23 hR, rm_0_24 hR, rm_0_25 hR, rm_0_26 hR, rm_0_27 hR, rm_0_28 hR, rm_0_31 hR, rm_0_35 hR, rm_0_36 hR, rm_0_37 hR, gd_tt, oA_arr, px_obj_s, Option.bind_some, Option.map_some, Option.bind_none, eq_self, true_or, or_true, px_av_0, px_av_1, px_av_2, px_av_10, px_av_11, bn, wi_1, wi_2, wl_1, wl_21, wl_22, wr_1, wr_21, wr_22, Sum.elim_inl, Sum.elim_inr, ↓reduceIte, Nat.reduceLT, Nat.reduceLeDiff, not_false_eq_true, not_true_eq_false, Nat.reduceEqDiff, Nat.reduceAdd, reduceCtorEq, and_true, true_and, and_false, false_and, false_or, or_false, true_and, and_true, ni_divL, ni_subL, nI_add, pk_mul, nI_leI, nI_ltI, nI_eq, vp_in_eq, nI_clamp, ↓ni_tst, ni_tst2, fa_and, fa_or, ni_bit1, ni_1s, nI_l, mb_eq0, mb_ne0, mb_eq1, gd_tt, gd_t, bft, e1, q3]
    rw [if_neg (by omega)]
    by_cases h : 99 ≤ ds n B a i
    · simp [bs, h, show ¬ ds n B a i < 99 by omega]
    · simp [bs, h, show ds n B a i < 99 by omega]
  · simp (disch := omega) only [F_36_10, la_0, la_1, la_2, la_3, la_4, la_15, la_16, la_17, la_18, la_19, la_20, la_23, la_24, la_25, la_26, la_27, la_28, la_31, la_35, la_36, la_37, rm_0_1 hR, rm_0_2 hR, rm_0_3 hR, rm_0_4 hR, rm_0_15 hR, rm_0_16 hR, rm_0_17 hR, rm_0_18 hR, rm_0_19 hR, rm_0_20 hR, rm_0_23 hR, rm_0_24 hR, rm_0_25 hR, rm_0_26 hR, rm_0_27 hR, rm_0_28 hR, rm_0_31 hR, rm_0_35 hR, rm_0_36 hR, rm_0_37 hR, gd_tt, oA_arr, px_obj_s, Option.bind_some, Option.map_some, Option.bind_none, eq_self, true_or, or_true, px_av_0, px_av_1, px_av_2, px_av_10, px_av_11, bn, wi_1, wi_2, wl_1, wl_21, wl_22, wr_1, wr_21, wr_22, Sum.elim_inl, Sum.elim_inr, ↓reduceIte, Nat.reduceLT, Nat.reduceLeDiff, not_false_eq_true, not_true_eq_false, Nat.reduceEqDiff, Nat.reduceAdd, reduceCtorEq, and_true, true_and, and_false, false_and, false_or, or_false, true_and, and_true, ni_divL, ni_subL, nI_add, pk_mul, nI_leI, nI_ltI, nI_eq, vp_in_eq, nI_clamp, ↓ni_tst, ni_tst2, fa_and, fa_or, ni_bit1, ni_1s, nI_l, mb_eq0, mb_ne0, mb_eq1, gd_tt, gd_t, bft, e1]
    rw [if_pos (by omega)]
theorem e_twoAway (hm : mo σ n B) {a : Nat} (ha : a < n) : ∃ υ, f_37 tT σ 0 (nI a) = some (nI (ly B n a 2), υ) ∧ fr (on 15) σ υ := by
  obtain ⟨υ, q1, q2, q3⟩ := e_laysFar hm ha
  obtain ⟨hR, hw, e1, hnb⟩ := id (mo_on (by decide) q2 hm)
  have hn := hw.1
  refine ⟨υ, ?_, q2⟩
  have hs : bs (fun h => decide (ds n B a h = 2)) n = ly B n a 2 := bs_eq (fun i hi => by
    have := ds_eq hw ha i (i := 2) (by omega)
    cases hb : (ly B n a 2).testBit i with
    | true => exact (decide_eq_true (this.mpr hb)).symm
    | false => exact (decide_eq_false (fun q => by rw [this.mp q] at hb; cases hb)).symm) (fun i hi => tb_ff (ly_inn hw ha) hi)
  simp (disch := omega) only [f_37, la_0, q1, gd_tt, oA_arr, px_obj_s, Option.bind_some, Option.map_some, Option.bind_none, eq_self, true_or, or_true, px_av_0, px_av_1, px_av_2, px_av_10, px_av_11, bn, wi_1, wi_2, wl_1, wl_21, wl_22, wr_1, wr_21, wr_22, Sum.elim_inl, Sum.elim_inr, ↓reduceIte, Nat.reduceLT, Nat.reduceLeDiff, not_false_eq_true, not_true_eq_false, Nat.reduceEqDiff, Nat.reduceAdd, reduceCtorEq, and_true, true_and, and_false, false_and, false_or, or_false, true_and, and_true, ni_divL, ni_subL, nI_add, pk_mul, nI_leI, nI_ltI, nI_eq, vp_in_eq, nI_clamp, ↓ni_tst, ni_tst2, fa_and, fa_or, ni_bit1, ni_1s, nI_l, mb_eq0, mb_ne0, mb_eq1, gd_tt, gd_t, bft]
  rw [← hs]
  unfold f_37_10
  refine lp_to (I := fun j => (nI (bs (fun h => decide (ds n B a h = 2)) j), nI j)) n (fun i hi => ?_) ?_ 0 (by omega)
  · have := ds_le (n := n) (B := B) a i
    simp (disch := omega) only [F_37_10, f_37_40, la_0, la_1, la_2, la_3, la_4, la_15, la_16, la_17, la_18, la_19, la_20, la_23, la_24, la_25, la_26, la_27, la_28, la_31, la_35, la_36, la_37, rm_0_1 hR, rm_0_2 hR, rm_0_3 hR, rm_0_4 hR, rm_0_15 hR, rm_0_16 hR, rm_0_17 hR, rm_0_18 hR, rm_0_19 hR, rm_0_20 hR, rm_0_23 hR, rm_0_24 hR, rm_0_25 hR, rm_0_26 hR, rm_0_27 hR, rm_0_28 hR, rm_0_31 hR, rm_0_35 hR, rm_0_36 hR, rm_0_37 hR, gd_tt, oA_arr, px_obj_s, Option.bind_some, Option.map_some, Option.bind_none, eq_self, true_or, or_true, px_av_0, px_av_1, px_av_2, px_av_10, px_av_11, bn, wi_1, wi_2, wl_1, wl_21, wl_22, wr_1, wr_21, wr_22, Sum.elim_inl, Sum.elim_inr, ↓reduceIte, Nat.reduceLT, Nat.reduceLeDiff, not_false_eq_true, not_true_eq_false, Nat.reduceEqDiff, Nat.reduceAdd, reduceCtorEq, and_true, true_and, and_false, false_and, false_or, or_false, true_and, and_true, ni_divL, ni_subL, nI_add, pk_mul, nI_leI, nI_ltI, nI_eq, vp_in_eq, nI_clamp, ↓ni_tst, ni_tst2, fa_and, fa_or, ni_bit1, ni_1s, nI_l, mb_eq0, mb_ne0, mb_eq1, gd_tt, gd_t, bft, e1, q3]
    rw [if_neg (by omega)]
    by_cases h : ds n B a i = 2
    · simp [bs, h]
    · simp [bs, h]
  · simp (disch := omega) only [F_37_10, la_0, la_1, la_2, la_3, la_4, la_15, la_16, la_17, la_18, la_19, la_20, la_23, la_24, la_25, la_26, la_27, la_28, la_31, la_35, la_36, la_37, rm_0_1 hR, rm_0_2 hR, rm_0_3 hR, rm_0_4 hR, rm_0_15 hR, rm_0_16 hR, rm_0_17 hR, rm_0_18 hR, rm_0_19 hR, rm_0_20 hR, rm_0_23 hR, rm_0_24 hR, rm_0_25 hR, rm_0_26 hR, rm_0_27 hR, rm_0_28 hR, rm_0_31 hR, rm_0_35 hR, rm_0_36 hR, rm_0_37 hR, gd_tt, oA_arr, px_obj_s, Option.bind_some, Option.map_some, Option.bind_none, eq_self, true_or, or_true, px_av_0, px_av_1, px_av_2, px_av_10, px_av_11, bn, wi_1, wi_2, wl_1, wl_21, wl_22, wr_1, wr_21, wr_22, Sum.elim_inl, Sum.elim_inr, ↓reduceIte, Nat.reduceLT, Nat.reduceLeDiff, not_false_eq_true, not_true_eq_false, Nat.reduceEqDiff, Nat.reduceAdd, reduceCtorEq, and_true, true_and, and_false, false_and, false_or, or_false, true_and, and_true, ni_divL, ni_subL, nI_add, pk_mul, nI_leI, nI_ltI, nI_eq, vp_in_eq, nI_clamp, ↓ni_tst, ni_tst2, fa_and, fa_or, ni_bit1, ni_1s, nI_l, mb_eq0, mb_ne0, mb_eq1, gd_tt, gd_t, bft, e1]
    rw [if_pos (by omega)]
/-- how many steps, or none -/
def oD (d : Nat) : Int32 := if d < 99 then nI d else -1
theorem e_steps39 (hm : mo σ n B) {a b : Nat} (ha : a < n) (hb : b < n) : ∃ υ, f_39 tT σ 0 (nI a) (nI b) = some (oD (ds n B a b), υ) ∧ fr SM σ υ := by
  have hm0 := mo_thr hm
  have hn := hm.2.1.1
  obtain ⟨υ, q1, q2, q3⟩ := e_laysFar hm0 ha
  have hR := (mo_on (by decide) q2 hm0).1
  have h1 := e_isHouse hm0 (nI a).toInt64
  have h2 := e_isHouse hm0 (nI b).toInt64
  rw [Int32.toInt_toInt64, nI_toInt (by omega), decide_eq_true (by omega)] at h1 h2
  have := ds_le (n := n) (B := B) a b
  refine ⟨υ, ?_, fr_tr (fr_thr (fr_rf _ _)) (fr_15 q2)⟩
  simp only [f_39, h1, h2, mb_t1, gd_tt, oA_arr, px_obj_s, Option.bind_some, Option.map_some, Option.bind_none, eq_self, true_or, or_true, px_av_0, px_av_1, px_av_2, px_av_10, px_av_11, bn, wi_1, wi_2, wl_1, wl_21, wl_22, wr_1, wr_21, wr_22, Sum.elim_inl, Sum.elim_inr, ↓reduceIte, Nat.reduceLT, Nat.reduceLeDiff, not_false_eq_true, not_true_eq_false, Nat.reduceEqDiff, Nat.reduceAdd, reduceCtorEq, and_true, true_and, and_false, false_and, false_or, or_false, la_0, n10, q1, f_39_32]
  simp (disch := omega) only [la_0, la_1, la_2, la_3, la_4, la_15, la_16, la_17, la_18, la_19, la_20, la_23, la_24, la_25, la_26, la_27, la_28, la_31, la_35, la_36, la_37, rm_0_1 hR, rm_0_2 hR, rm_0_3 hR, rm_0_4 hR, rm_0_15 hR, rm_0_16 hR, rm_0_17 hR, rm_0_18 hR, rm_0_19 hR, rm_0_20 hR, rm_0_23 hR, rm_0_24 hR, rm_0_25 hR, rm_0_26 hR, rm_0_27 hR, rm_0_28 hR, rm_0_31 hR, rm_0_35 hR, rm_0_36 hR, rm_0_37 hR, gd_tt, oA_arr, px_obj_s, Option.bind_some, Option.map_some, Option.bind_none, eq_self, true_or, or_true, px_av_0, px_av_1, px_av_2, px_av_10, px_av_11, bn, wi_1, wi_2, wl_1, wl_21, wl_22, wr_1, wr_21, wr_22, Sum.elim_inl, Sum.elim_inr, ↓reduceIte, Nat.reduceLT, Nat.reduceLeDiff, not_false_eq_true, not_true_eq_false, Nat.reduceEqDiff, Nat.reduceAdd, reduceCtorEq, and_true, true_and, and_false, false_and, false_or, or_false, true_and, and_true, ni_divL, ni_subL, nI_add, pk_mul, nI_leI, nI_ltI, nI_eq, vp_in_eq, nI_clamp, ↓ni_tst, ni_tst2, fa_and, fa_or, ni_bit1, ni_1s, nI_l, mb_eq0, mb_ne0, mb_eq1, gd_tt, gd_t, bft, q3]
  unfold oD
  by_cases h : ds n B a b = 99
  · rw [if_pos h, if_neg (by omega)]
  · rw [if_neg h, if_pos (by omega)]
end
