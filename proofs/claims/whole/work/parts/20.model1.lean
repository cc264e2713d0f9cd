/-! the model: what its small methods answer -/
section
variable {σ τ : px_M} {n : Nat} {B : Nat → Nat}
theorem e_threesOf (hm : mo σ n B) {h : Nat} (hh : h < 11) : f_33 tT σ 0 (nI h) = some (nI (th2 n B h / 2)) := by
  obtain ⟨hR, hw, h1, hnb⟩ := id hm
  have hn := hw.1
  have hlt := wf_2048 hw
  have hB := hlt h
  unfold f_33 f_33_4
  refine lp_to (I := fun j => (nI (sm (fun a => if (B h).testBit a then bc 11 (B h &&& B a) else 0) j), nI j)) n (fun i hi => ?_) ?_ 0 (by omega)
  · have := th2_le (B := B) h i
    have hA : B h &&& B i < 2048 := and_lt hB
    simp (disch := omega) only [F_33_4, f_33_44, f_33_27, la_0, la_1, rm_0_1 hR, gd_tt, oA_arr, px_obj_s, Option.bind_some, Option.map_some, Option.bind_none, eq_self, true_or, or_true, px_av_0, px_av_1, px_av_2, px_av_10, px_av_11, bn, wi_1, wi_2, wl_1, wl_21, wl_22, wr_1, wr_21, wr_22, Sum.elim_inl, Sum.elim_inr, ↓reduceIte, Nat.reduceLT, Nat.reduceLeDiff, not_false_eq_true, not_true_eq_false, Nat.reduceEqDiff, Nat.reduceAdd, reduceCtorEq, and_true, true_and, and_false, false_and, false_or, or_false, true_and, and_true, ni_divL, ni_subL, nI_add, pk_mul, nI_leI, nI_ltI, nI_eq, vp_in_eq, nI_clamp, ↓ni_tst, ni_tst2, fa_and, fa_or, ni_bit1, ni_1s, nI_l, mb_eq0, mb_ne0, mb_eq1, gd_tt, gd_t, bft, h1, e_near hm, e_isIn, e_bitsOf]
    rw [if_neg (by omega)]
    cases h2 : (B h).testBit i
    · simp [mb, sm, h2, nI]
    · simp [mb, sm, h2, nI]
  · have := th2_le (B := B) h n
    simp (disch := omega) only [F_33_4, f_33_44, f_33_27, la_0, la_1, rm_0_1 hR, gd_tt, oA_arr, px_obj_s, Option.bind_some, Option.map_some, Option.bind_none, eq_self, true_or, or_true, px_av_0, px_av_1, px_av_2, px_av_10, px_av_11, bn, wi_1, wi_2, wl_1, wl_21, wl_22, wr_1, wr_21, wr_22, Sum.elim_inl, Sum.elim_inr, ↓reduceIte, Nat.reduceLT, Nat.reduceLeDiff, not_false_eq_true, not_true_eq_false, Nat.reduceEqDiff, Nat.reduceAdd, reduceCtorEq, and_true, true_and, and_false, false_and, false_or, or_false, true_and, and_true, ni_divL, ni_subL, nI_add, pk_mul, nI_leI, nI_ltI, nI_eq, vp_in_eq, nI_clamp, ↓ni_tst, ni_tst2, fa_and, fa_or, ni_bit1, ni_1s, nI_l, mb_eq0, mb_ne0, mb_eq1, gd_tt, gd_t, bft, h1]
    rw [if_pos (by omega)]; rfl
theorem e_foursOf (hm : mo σ n B) {h : Nat} (hh : h < 11) : f_34 tT σ 0 (nI h) = some (nI (fo1 n B h)) := by
  obtain ⟨hR, hw, h1, hnb⟩ := id hm
  have hn := hw.1
  have hlt := wf_2048 hw
  have hB := hlt h
  unfold f_34 f_34_4
  refine lp_to (I := fun j => (nI (sm (fun o => if o = h then 0 else c2 (bc 11 (B h &&& B o))) j), nI j)) n (fun i hi => ?_) ?_ 0 (by omega)
  · have := fo1_le (B := B) h i
    have hA : B h &&& B i < 2048 := and_lt hB
    have hb := bc_le 11 (B h &&& B i)
    by_cases hih : i = h
    · subst hih
      simp (disch := omega) only [F_34_4, f_34_50, f_34_38, f_34_22, la_0, la_1, rm_0_1 hR, gd_tt, oA_arr, px_obj_s, Option.bind_some, Option.map_some, Option.bind_none, eq_self, true_or, or_true, px_av_0, px_av_1, px_av_2, px_av_10, px_av_11, bn, wi_1, wi_2, wl_1, wl_21, wl_22, wr_1, wr_21, wr_22, Sum.elim_inl, Sum.elim_inr, ↓reduceIte, Nat.reduceLT, Nat.reduceLeDiff, not_false_eq_true, not_true_eq_false, Nat.reduceEqDiff, Nat.reduceAdd, reduceCtorEq, and_true, true_and, and_false, false_and, false_or, or_false, true_and, and_true, ni_divL, ni_subL, nI_add, pk_mul, nI_leI, nI_ltI, nI_eq, vp_in_eq, nI_clamp, ↓ni_tst, ni_tst2, fa_and, fa_or, ni_bit1, ni_1s, nI_l, mb_eq0, mb_ne0, mb_eq1, gd_tt, gd_t, bft, h1]
      rw [if_neg (by omega)]
      simp [sm]
    · simp (disch := omega) only [F_34_4, f_34_50, f_34_38, f_34_22, la_0, la_1, rm_0_1 hR, gd_tt, oA_arr, px_obj_s, Option.bind_some, Option.map_some, Option.bind_none, eq_self, true_or, or_true, px_av_0, px_av_1, px_av_2, px_av_10, px_av_11, bn, wi_1, wi_2, wl_1, wl_21, wl_22, wr_1, wr_21, wr_22, Sum.elim_inl, Sum.elim_inr, ↓reduceIte, Nat.reduceLT, Nat.reduceLeDiff, not_false_eq_true, not_true_eq_false, Nat.reduceEqDiff, Nat.reduceAdd, reduceCtorEq, and_true, true_and, and_false, false_and, false_or, or_false, true_and, and_true, ni_divL, ni_subL, nI_add, pk_mul, nI_leI, nI_ltI, nI_eq, vp_in_eq, nI_clamp, ↓ni_tst, ni_tst2, fa_and, fa_or, ni_bit1, ni_1s, nI_l, mb_eq0, mb_ne0, mb_eq1, gd_tt, gd_t, bft, h1, e_near hm, e_bitsOf, ↓ni_c2]
      rw [if_neg (by omega), if_neg hih]
      simp [sm, hih]
  · have := fo1_le (B := B) h n
    simp (disch := omega) only [F_34_4, f_34_50, f_34_38, f_34_22, la_0, la_1, rm_0_1 hR, gd_tt, oA_arr, px_obj_s, Option.bind_some, Option.map_some, Option.bind_none, eq_self, true_or, or_true, px_av_0, px_av_1, px_av_2, px_av_10, px_av_11, bn, wi_1, wi_2, wl_1, wl_21, wl_22, wr_1, wr_21, wr_22, Sum.elim_inl, Sum.elim_inr, ↓reduceIte, Nat.reduceLT, Nat.reduceLeDiff, not_false_eq_true, not_true_eq_false, Nat.reduceEqDiff, Nat.reduceAdd, reduceCtorEq, and_true, true_and, and_false, false_and, false_or, or_false, true_and, and_true, ni_divL, ni_subL, nI_add, pk_mul, nI_leI, nI_ltI, nI_eq, vp_in_eq, nI_clamp, ↓ni_tst, ni_tst2, fa_and, fa_or, ni_bit1, ni_1s, nI_l, mb_eq0, mb_ne0, mb_eq1, gd_tt, gd_t, bft, h1]
    rw [if_pos (by omega)]; rfl
theorem e_doorMany (hm : mo σ n B) : f_45 tT σ 0 = some (nI (dm n B)) := by
  obtain ⟨hR, hw, h1, hnb⟩ := id hm
  have hn := hw.1
  have hlt := wf_2048 hw
  have hb : ∀ m, sm (fun h => bc 11 (B h)) m ≤ 11 * m := sm_le (fun j => bc_le 11 _)
  unfold f_45 f_45_4
  refine lp_to (I := fun j => (nI (sm (fun h => bc 11 (B h)) j), nI j)) n (fun i hi => ?_) ?_ 0 (by omega)
  · have := hb i
    have := hlt i
    simp (disch := omega) only [F_45_4, f_45_25, la_0, la_1, rm_0_1 hR, gd_tt, oA_arr, px_obj_s, Option.bind_some, Option.map_some, Option.bind_none, eq_self, true_or, or_true, px_av_0, px_av_1, px_av_2, px_av_10, px_av_11, bn, wi_1, wi_2, wl_1, wl_21, wl_22, wr_1, wr_21, wr_22, Sum.elim_inl, Sum.elim_inr, ↓reduceIte, Nat.reduceLT, Nat.reduceLeDiff, not_false_eq_true, not_true_eq_false, Nat.reduceEqDiff, Nat.reduceAdd, reduceCtorEq, and_true, true_and, and_false, false_and, false_or, or_false, true_and, and_true, ni_divL, ni_subL, nI_add, pk_mul, nI_leI, nI_ltI, nI_eq, vp_in_eq, nI_clamp, ↓ni_tst, ni_tst2, fa_and, fa_or, ni_bit1, ni_1s, nI_l, mb_eq0, mb_ne0, mb_eq1, gd_tt, gd_t, bft, h1, e_near hm, e_bitsOf]
    rw [if_neg (by omega)]; rfl
  · have := hb n
    simp (disch := omega) only [F_45_4, f_45_25, la_0, la_1, rm_0_1 hR, gd_tt, oA_arr, px_obj_s, Option.bind_some, Option.map_some, Option.bind_none, eq_self, true_or, or_true, px_av_0, px_av_1, px_av_2, px_av_10, px_av_11, bn, wi_1, wi_2, wl_1, wl_21, wl_22, wr_1, wr_21, wr_22, Sum.elim_inl, Sum.elim_inr, ↓reduceIte, Nat.reduceLT, Nat.reduceLeDiff, not_false_eq_true, not_true_eq_false, Nat.reduceEqDiff, Nat.reduceAdd, reduceCtorEq, and_true, true_and, and_false, false_and, false_or, or_false, true_and, and_true, ni_divL, ni_subL, nI_add, pk_mul, nI_leI, nI_ltI, nI_eq, vp_in_eq, nI_clamp, ↓ni_tst, ni_tst2, fa_and, fa_or, ni_bit1, ni_1s, nI_l, mb_eq0, mb_ne0, mb_eq1, gd_tt, gd_t, bft, h1]
    rw [if_pos (by omega)]; rfl
theorem e_threeMany (hm : mo σ n B) : f_73 tT σ 0 = some (nI (tm n B)) := by
  obtain ⟨hR, hw, h1, hnb⟩ := id hm
  have hn := hw.1
  have hb : ∀ m, sm (fun h => th2 n B h / 2) m ≤ 66 * m := sm_le (fun j => by have := th2_le (B := B) j n; unfold th2; omega)
  unfold f_73 f_73_4
  refine lp_to (I := fun j => (nI (sm (fun h => th2 n B h / 2) j), nI j)) n (fun i hi => ?_) ?_ 0 (by omega)
  · have := hb i
    simp (disch := omega) only [F_73_4, f_73_22, la_0, la_1, rm_0_1 hR, gd_tt, oA_arr, px_obj_s, Option.bind_some, Option.map_some, Option.bind_none, eq_self, true_or, or_true, px_av_0, px_av_1, px_av_2, px_av_10, px_av_11, bn, wi_1, wi_2, wl_1, wl_21, wl_22, wr_1, wr_21, wr_22, Sum.elim_inl, Sum.elim_inr, ↓reduceIte, Nat.reduceLT, Nat.reduceLeDiff, not_false_eq_true, not_true_eq_false, Nat.reduceEqDiff, Nat.reduceAdd, reduceCtorEq, and_true, true_and, and_false, false_and, false_or, or_false, true_and, and_true, ni_divL, ni_subL, nI_add, pk_mul, nI_leI, nI_ltI, nI_eq, vp_in_eq, nI_clamp, ↓ni_tst, ni_tst2, fa_and, fa_or, ni_bit1, ni_1s, nI_l, mb_eq0, mb_ne0, mb_eq1, gd_tt, gd_t, bft, h1, e_threesOf hm]
    rw [if_neg (by omega)]; rfl
  · have := hb n
    simp (disch := omega) only [F_73_4, f_73_22, la_0, la_1, rm_0_1 hR, gd_tt, oA_arr, px_obj_s, Option.bind_some, Option.map_some, Option.bind_none, eq_self, true_or, or_true, px_av_0, px_av_1, px_av_2, px_av_10, px_av_11, bn, wi_1, wi_2, wl_1, wl_21, wl_22, wr_1, wr_21, wr_22, Sum.elim_inl, Sum.elim_inr, ↓reduceIte, Nat.reduceLT, Nat.reduceLeDiff, not_false_eq_true, not_true_eq_false, Nat.reduceEqDiff, Nat.reduceAdd, reduceCtorEq, and_true, true_and, and_false, false_and, false_or, or_false, true_and, and_true, ni_divL, ni_subL, nI_add, pk_mul, nI_leI, nI_ltI, nI_eq, vp_in_eq, nI_clamp, ↓ni_tst, ni_tst2, fa_and, fa_or, ni_bit1, ni_1s, nI_l, mb_eq0, mb_ne0, mb_eq1, gd_tt, gd_t, bft, h1]
    rw [if_pos (by omega)]; rfl
/-- no two of a set are neighbours -/
def fe (n : Nat) (B : Nat → Nat) (s : Nat) : Bool := decide (ar B n s &&& s = 0)
theorem fe_iff {s : Nat} : fe n B s = true ↔ ∀ h, h < n → s.testBit h = true → B h &&& s = 0 := by
  unfold fe
  rw [decide_eq_true_eq]
  constructor
  · intro h a ha hs
    apply tb_eq
    intro i
    rw [Nat.zero_testBit, Nat.testBit_and, Bool.and_eq_true]
    constructor
    · rintro ⟨h1, h2⟩
      have h3 : (ar B n s &&& s).testBit i = true := by rw [Nat.testBit_and, Bool.and_eq_true]; exact ⟨ar_tb.mpr ⟨a, ha, hs, h1⟩, h2⟩
      rw [h] at h3
      simp at h3
    · intro q; cases q
  · intro h
    apply tb_eq
    intro i
    rw [Nat.zero_testBit, Nat.testBit_and, Bool.and_eq_true]
    constructor
    · rintro ⟨h1, h2⟩
      obtain ⟨j, j1, j2, j3⟩ := ar_tb.mp h1
      have h3 : (B j &&& s).testBit i = true := by rw [Nat.testBit_and, Bool.and_eq_true]; exact ⟨j3, h2⟩
      rw [h j j1 j2] at h3
      simp at h3
    · intro q; cases q
theorem e_isFeast (hm : mo σ n B) {s : Nat} (hs : s < 2048) : f_40 tT σ 0 (nI s) = some (mb (fe n B s)) := by
  obtain ⟨hR, hw, h1, hnb⟩ := id hm
  have hn := hw.1
  have hlt := wf_2048 hw
  unfold f_40 f_40_2
  obtain ⟨b, hb, hq⟩ := lp_rel (F := fun x : Int32 => F_40_2 tT σ 0 (nI s) x) (fun j x => x = nI j ∧ ∀ h, h < j → s.testBit h = true → B h &&& s = 0) (fun b => b = mb (fe n B s)) n (fun j x hj hI => by
    obtain ⟨rfl, hI⟩ := hI
    have hA : B j &&& s < 2048 := and_lt (hlt j)
    simp (disch := omega) only [F_40_2, f_40_33, la_0, la_1, rm_0_1 hR, gd_tt, oA_arr, px_obj_s, Option.bind_some, Option.map_some, Option.bind_none, eq_self, true_or, or_true, px_av_0, px_av_1, px_av_2, px_av_10, px_av_11, bn, wi_1, wi_2, wl_1, wl_21, wl_22, wr_1, wr_21, wr_22, Sum.elim_inl, Sum.elim_inr, ↓reduceIte, Nat.reduceLT, Nat.reduceLeDiff, not_false_eq_true, not_true_eq_false, Nat.reduceEqDiff, Nat.reduceAdd, reduceCtorEq, and_true, true_and, and_false, false_and, false_or, or_false, true_and, and_true, ni_divL, ni_subL, nI_add, pk_mul, nI_leI, nI_ltI, nI_eq, vp_in_eq, nI_clamp, ↓ni_tst, ni_tst2, fa_and, fa_or, ni_bit1, ni_1s, nI_l, mb_eq0, mb_ne0, mb_eq1, gd_tt, gd_t, bft, h1, e_isIn]
    by_cases hjn : n ≤ j
    · right
      have hj' : j = n := by omega
      subst hj'
      refine ⟨nI 1, by rw [if_pos hjn], ?_⟩
      rw [fe_iff.mpr hI]; rfl
    · rw [if_neg hjn]
      cases h2 : s.testBit j
      · left
        refine ⟨nI (j + 1), by simp [nI_add], by omega, rfl, fun h hh hs' => ?_⟩
        by_cases hhj : h = j
        · subst hhj; rw [h2] at hs'; cases hs'
        · exact hI h (by omega) hs'
      · by_cases h3 : B j &&& s = 0
        · left
          refine ⟨nI (j + 1), ?_, by omega, rfl, fun h hh hs' => ?_⟩
          · simp (disch := omega) only [gd_tt, oA_arr, px_obj_s, Option.bind_some, Option.map_some, Option.bind_none, eq_self, true_or, or_true, px_av_0, px_av_1, px_av_2, px_av_10, px_av_11, bn, wi_1, wi_2, wl_1, wl_21, wl_22, wr_1, wr_21, wr_22, Sum.elim_inl, Sum.elim_inr, ↓reduceIte, Nat.reduceLT, Nat.reduceLeDiff, not_false_eq_true, not_true_eq_false, Nat.reduceEqDiff, Nat.reduceAdd, reduceCtorEq, and_true, true_and, and_false, false_and, false_or, or_false, true_and, and_true, ni_divL, ni_subL, nI_add, pk_mul, nI_leI, nI_ltI, nI_eq, vp_in_eq, nI_clamp, ↓ni_tst, ni_tst2, fa_and, fa_or, ni_bit1, ni_1s, nI_l, mb_eq0, mb_ne0, mb_eq1, gd_tt, gd_t, bft, e_near hm]
            rw [if_pos h3]
          · by_cases hhj : h = j
            · subst hhj; exact h3
            · exact hI h (by omega) hs'
        · right
          refine ⟨nI 0, ?_, ?_⟩
          · simp (disch := omega) only [gd_tt, oA_arr, px_obj_s, Option.bind_some, Option.map_some, Option.bind_none, eq_self, true_or, or_true, px_av_0, px_av_1, px_av_2, px_av_10, px_av_11, bn, wi_1, wi_2, wl_1, wl_21, wl_22, wr_1, wr_21, wr_22, Sum.elim_inl, Sum.elim_inr, ↓reduceIte, Nat.reduceLT, Nat.reduceLeDiff, not_false_eq_true, not_true_eq_false, Nat.reduceEqDiff, Nat.reduceAdd, reduceCtorEq, and_true, true_and, and_false, false_and, false_or, or_false, true_and, and_true, ni_divL, ni_subL, nI_add, pk_mul, nI_leI, nI_ltI, nI_eq, vp_in_eq, nI_clamp, ↓ni_tst, ni_tst2, fa_and, fa_or, ni_bit1, ni_1s, nI_l, mb_eq0, mb_ne0, mb_eq1, gd_tt, gd_t, bft, e_near hm]
            rw [if_neg h3]
          · have : ¬ fe n B s = true := fun q => h3 (fe_iff.mp q j (by omega) h2)
            simp only [Bool.not_eq_true] at this
            rw [this]; rfl) 0 (nI 0) (by omega) ⟨rfl, fun h hh => absurd hh (by omega)⟩
  rw [show nI 0 = nI 0 from rfl, hb, hq]
/-- none, or a number -/
def oI (o : Option Nat) : Int32 := match o with
  | none => -1
  | some b => nI b
/-- the largest feast with some, among the sets below j -/
def fwo (n : Nat) (B : Nat → Nat) (must : Nat) : Nat → Option Nat
  | 0 => none
  | j + 1 => match fwo n B must j with
    | none => if j &&& must = must ∧ fe n B j = true then some j else none
    | some b => if j &&& must = must ∧ bc 11 b < bc 11 j ∧ fe n B j = true then some j else some b
theorem fwo_lt {must : Nat} : ∀ {j b : Nat}, fwo n B must j = some b → b < j := by
  intro j
  induction j with
  | zero => intro b h; cases h
  | succ j ih =>
    intro b h
    simp only [fwo] at h
    cases hq : fwo n B must j with
    | none =>
      rw [hq] at h
      simp only at h
      split at h
      · cases h; omega
      · cases h
    | some c =>
      rw [hq] at h
      simp only at h
      split at h
      · cases h; omega
      · cases h; have := ih hq; omega
theorem nI_m1 {b : Nat} (hb : b < 2 ^ 31) : ¬ nI b = -1 := by
  intro q
  have := congrArg Int32.toInt q
  rw [nI_toInt hb] at this
  have h2 : (-1 : Int32).toInt = -1 := by decide
  omega
theorem e_feastWith (hm : mo σ n B) {must : Nat} (hs : must < 2048) : f_41 tT σ 0 (nI must) = some (oI (fwo n B must (2 ^ n))) := by
  obtain ⟨hR, hw, h1, hnb⟩ := id hm
  have hn := hw.1
  have hp := pw_le hn
  unfold f_41 f_41_4
  refine lp_to (I := fun j => (oI (fwo n B must j), nI j)) (2 ^ n) (fun i hi => ?_) ?_ 0 (Nat.zero_le _)
  · have hA : i &&& must < 2048 := and_lt (by omega)
    simp (disch := omega) only [F_41_4, f_41_49, f_41_39, la_0, la_1, rm_0_1 hR, gd_tt, oA_arr, px_obj_s, Option.bind_some, Option.map_some, Option.bind_none, eq_self, true_or, or_true, px_av_0, px_av_1, px_av_2, px_av_10, px_av_11, bn, wi_1, wi_2, wl_1, wl_21, wl_22, wr_1, wr_21, wr_22, Sum.elim_inl, Sum.elim_inr, ↓reduceIte, Nat.reduceLT, Nat.reduceLeDiff, not_false_eq_true, not_true_eq_false, Nat.reduceEqDiff, Nat.reduceAdd, reduceCtorEq, and_true, true_and, and_false, false_and, false_or, or_false, true_and, and_true, ni_divL, ni_subL, nI_add, pk_mul, nI_leI, nI_ltI, nI_eq, vp_in_eq, nI_clamp, ↓ni_tst, ni_tst2, fa_and, fa_or, ni_bit1, ni_1s, nI_l, mb_eq0, mb_ne0, mb_eq1, gd_tt, gd_t, bft, h1, e_isFeast hm, e_bitsOf]
    rw [if_neg (by omega)]
    by_cases h2 : i &&& must = must
    · rw [if_pos h2]
      simp only [fwo]
      cases h3 : fwo n B must i with
      | none =>
        simp only [oI, ↓reduceIte]
        cases h4 : fe n B i
        · simp [h2, oI]
        · simp [h2, oI]
      | some b =>
        have hbl := fwo_lt h3
        have hb1 := bc_le 11 i
        have hb2 := bc_le 11 b
        simp only [oI]
        simp only [nI_m1 (b := b) (by omega), ↓reduceIte]
        simp (disch := omega) only [gd_tt, oA_arr, px_obj_s, Option.bind_some, Option.map_some, Option.bind_none, eq_self, true_or, or_true, px_av_0, px_av_1, px_av_2, px_av_10, px_av_11, bn, wi_1, wi_2, wl_1, wl_21, wl_22, wr_1, wr_21, wr_22, Sum.elim_inl, Sum.elim_inr, ↓reduceIte, Nat.reduceLT, Nat.reduceLeDiff, not_false_eq_true, not_true_eq_false, Nat.reduceEqDiff, Nat.reduceAdd, reduceCtorEq, and_true, true_and, and_false, false_and, false_or, or_false, true_and, and_true, ni_divL, ni_subL, nI_add, pk_mul, nI_leI, nI_ltI, nI_eq, vp_in_eq, nI_clamp, ↓ni_tst, ni_tst2, fa_and, fa_or, ni_bit1, ni_1s, nI_l, mb_eq0, mb_ne0, mb_eq1, gd_tt, gd_t, bft, e_bitsOf]
        by_cases h4 : bc 11 i ≤ bc 11 b
        · rw [if_pos h4, if_neg (by omega)]
        · rw [if_neg h4]
          cases h5 : fe n B i
          · simp [oI]
          · simp [oI, h2, show bc 11 b < bc 11 i by omega]
    · rw [if_neg h2]
      simp only [fwo]
      cases h3 : fwo n B must i with
      | none => simp [h2]
      | some b => simp [h2]
  · simp (disch := omega) only [F_41_4, f_41_49, f_41_39, la_0, la_1, rm_0_1 hR, gd_tt, oA_arr, px_obj_s, Option.bind_some, Option.map_some, Option.bind_none, eq_self, true_or, or_true, px_av_0, px_av_1, px_av_2, px_av_10, px_av_11, bn, wi_1, wi_2, wl_1, wl_21, wl_22, wr_1, wr_21, wr_22, Sum.elim_inl, Sum.elim_inr, ↓reduceIte, Nat.reduceLT, Nat.reduceLeDiff, not_false_eq_true, not_true_eq_false, Nat.reduceEqDiff, Nat.reduceAdd, reduceCtorEq, and_true, true_and, and_false, false_and, false_or, or_false, true_and, and_true, ni_divL, ni_subL, nI_add, pk_mul, nI_leI, nI_ltI, nI_eq, vp_in_eq, nI_clamp, ↓ni_tst, ni_tst2, fa_and, fa_or, ni_bit1, ni_1s, nI_l, mb_eq0, mb_ne0, mb_eq1, gd_tt, gd_t, bft, h1]
    rw [if_pos (by omega)]
end
