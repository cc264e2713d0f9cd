/-! weaving: the model's half -/
section
variable {σ : px_M} {t n : Nat} {B : Nat → Nat}
theorem wf_big (hw : wf n B) {m : Nat} (h1 : n ≤ m) (h2 : m ≤ 11) : wf m B := wf_of h2 (fun a b h => by have := wf_l hw h; have := wf_r hw h; omega) hw.2.2.2.1 hw.2.2.2.2
/-- the new ones' doors, after h of them and k of the next -/
def wvU (n : Nat) (B : Nat → Nat) (h k x y : Nat) : Prop := ∃ i, i < n ∧ x = n + i ∧ ((i < h ∧ ((B i).testBit y = true ∨ y = 2 * n)) ∨ (i = h ∧ y < k ∧ (B i).testBit y = true))
def wvP (n : Nat) (B : Nat → Nat) (h k : Nat) (T : Nat → Nat) : Prop := ∀ x y, (T x).testBit y = true ↔ ((B x).testBit y = true ∨ wvU n B h k x y ∨ wvU n B h k y x)
theorem wvU_S {h k : Nat} (hh : h < n) (x y : Nat) : wvU n B h (k + 1) x y ↔ (wvU n B h k x y ∨ (x = n + h ∧ y = k ∧ (B h).testBit k = true)) := by
  unfold wvU
  constructor
  · rintro ⟨i, hi, rfl, ⟨h1, h2⟩ | ⟨rfl, h1, h2⟩⟩
    · exact Or.inl ⟨i, hi, rfl, Or.inl ⟨h1, h2⟩⟩
    · by_cases hk : y = k
      · subst hk; exact Or.inr ⟨rfl, rfl, h2⟩
      · exact Or.inl ⟨i, hi, rfl, Or.inr ⟨rfl, by omega, h2⟩⟩
  · rintro (⟨i, hi, rfl, ⟨h1, h2⟩ | ⟨rfl, h1, h2⟩⟩ | ⟨rfl, rfl, h2⟩)
    · exact ⟨i, hi, rfl, Or.inl ⟨h1, h2⟩⟩
    · exact ⟨i, hi, rfl, Or.inr ⟨rfl, by omega, h2⟩⟩
    · exact ⟨h, hh, rfl, Or.inr ⟨rfl, by omega, h2⟩⟩
theorem wvU_R (hw : wf n B) {h : Nat} (hh : h < n) (x y : Nat) : wvU n B (h + 1) 0 x y ↔ (wvU n B h n x y ∨ (x = n + h ∧ y = 2 * n)) := by
  unfold wvU
  constructor
  · rintro ⟨i, hi, rfl, ⟨h1, h2⟩ | ⟨rfl, h1, h2⟩⟩
    · by_cases hih : i = h
      · subst hih
        rcases h2 with h2 | h2
        · exact Or.inl ⟨i, hi, rfl, Or.inr ⟨rfl, wf_r hw h2, h2⟩⟩
        · exact Or.inr ⟨rfl, h2⟩
      · exact Or.inl ⟨i, hi, rfl, Or.inl ⟨by omega, h2⟩⟩
    · omega
  · rintro (⟨i, hi, rfl, ⟨h1, h2⟩ | ⟨rfl, h1, h2⟩⟩ | ⟨rfl, rfl⟩)
    · exact ⟨i, hi, rfl, Or.inl ⟨by omega, h2⟩⟩
    · exact ⟨i, hi, rfl, Or.inl ⟨by omega, Or.inl h2⟩⟩
    · exact ⟨h, hh, rfl, Or.inl ⟨by omega, Or.inr rfl⟩⟩
theorem wvP_S {h k : Nat} (hh : h < n) (hk : k < n) {T : Nat → Nat} (hT : wvP n B h k T) : wvP n B h (k + 1) (if (B h).testBit k = true then jn T (n + h) k else T) := by
  intro x y
  rw [wvU_S hh, wvU_S hh]
  by_cases hb : (B h).testBit k = true
  · rw [if_pos hb, jn_tb (by omega), Bool.or_eq_true, hT x y, decide_eq_true_eq]
    constructor
    · rintro ((h1 | h1 | h1) | h1 | h1)
      · exact Or.inl h1
      · exact Or.inr (Or.inl (Or.inl h1))
      · exact Or.inr (Or.inr (Or.inl h1))
      · exact Or.inr (Or.inl (Or.inr ⟨h1.1, h1.2, hb⟩))
      · exact Or.inr (Or.inr (Or.inr ⟨h1.2, h1.1, hb⟩))
    · rintro (h1 | (h1 | h1) | h1 | h1)
      · exact Or.inl (Or.inl h1)
      · exact Or.inl (Or.inr (Or.inl h1))
      · exact Or.inr (Or.inl ⟨h1.1, h1.2.1⟩)
      · exact Or.inl (Or.inr (Or.inr h1))
      · exact Or.inr (Or.inr ⟨h1.2.1, h1.1⟩)
  · rw [if_neg hb, hT x y]
    constructor
    · rintro (h1 | h1 | h1)
      · exact Or.inl h1
      · exact Or.inr (Or.inl (Or.inl h1))
      · exact Or.inr (Or.inr (Or.inl h1))
    · rintro (h1 | (h1 | h1) | h1 | h1)
      · exact Or.inl h1
      · exact Or.inr (Or.inl h1)
      · exact absurd h1.2.2 hb
      · exact Or.inr (Or.inr h1)
      · exact absurd h1.2.2 hb
theorem wvP_R (hw : wf n B) {h : Nat} (hh : h < n) {T : Nat → Nat} (hT : wvP n B h n T) : wvP n B (h + 1) 0 (jn T (n + h) (2 * n)) := by
  intro x y
  rw [wvU_R hw hh, wvU_R hw hh, jn_tb (by omega), Bool.or_eq_true, hT x y, decide_eq_true_eq]
  constructor
  · rintro ((h1 | h1 | h1) | h1 | h1)
    · exact Or.inl h1
    · exact Or.inr (Or.inl (Or.inl h1))
    · exact Or.inr (Or.inr (Or.inl h1))
    · exact Or.inr (Or.inl (Or.inr h1))
    · exact Or.inr (Or.inr (Or.inr ⟨h1.2, h1.1⟩))
  · rintro (h1 | (h1 | h1) | h1 | h1)
    · exact Or.inl (Or.inl h1)
    · exact Or.inl (Or.inr (Or.inl h1))
    · exact Or.inr (Or.inl h1)
    · exact Or.inl (Or.inr (Or.inr h1))
    · exact Or.inr (Or.inr ⟨h1.2, h1.1⟩)
def wvV (n : Nat) (B : Nat → Nat) (j x y : Nat) : Prop := ∃ i, i < j ∧ x = n + i ∧ (B i).testBit y = true
theorem wvt_wf (hw : wf n B) (h5 : n ≤ 5) : ∀ j, j ≤ n → wf (n + j) (wvt n B j) ∧ ∀ x y, (wvt n B j x).testBit y = true ↔ ((B x).testBit y = true ∨ wvV n B j x y ∨ wvV n B j y x) := by
  intro j
  induction j with
  | zero =>
    intro _
    refine ⟨hw, fun x y => ⟨fun h => Or.inl h, ?_⟩⟩
    rintro (h | ⟨i, hi, -⟩ | ⟨i, hi, -⟩)
    · exact h
    · omega
    · omega
  | succ j ih =>
    intro hj
    obtain ⟨h1, h2⟩ := ih (by omega)
    have hlt : wvt n B j j &&& (2 ^ n - 1) < 2 ^ (n + j) := by
      have a1 : wvt n B j j &&& (2 ^ n - 1) ≤ 2 ^ n - 1 := Nat.and_le_right
      have a2 : 2 ^ n ≤ 2 ^ (n + j) := Nat.pow_le_pow_right (by decide) (by omega)
      have a3 := Nat.two_pow_pos n
      omega
    have hs : ∀ y, (wvt n B j j &&& (2 ^ n - 1)).testBit y = true ↔ (B j).testBit y = true := by
      intro y
      rw [Nat.testBit_and, Nat.testBit_two_pow_sub_one, Bool.and_eq_true, h2, decide_eq_true_eq]
      constructor
      · rintro ⟨h3 | ⟨i, hi, h3, -⟩ | ⟨i, hi, h3, -⟩, h4⟩
        · exact h3
        · omega
        · omega
      · intro h3
        exact ⟨Or.inl h3, wf_r hw h3⟩
    refine ⟨wf_ah h1 (by omega) hlt, fun x y => ?_⟩
    show (ah (n + j) (wvt n B j) (wvt n B j j &&& (2 ^ n - 1)) x).testBit y = true ↔ _
    rw [ah_tb h1 hlt, Bool.or_eq_true, Bool.or_eq_true, Bool.and_eq_true, Bool.and_eq_true, decide_eq_true_eq, decide_eq_true_eq, hs, hs, h2]
    constructor
    · rintro (((h3 | ⟨i, hi, h3, h4⟩ | ⟨i, hi, h3, h4⟩) | ⟨h3, h4⟩) | ⟨h3, h4⟩)
      · exact Or.inl h3
      · exact Or.inr (Or.inl ⟨i, by omega, h3, h4⟩)
      · exact Or.inr (Or.inr ⟨i, by omega, h3, h4⟩)
      · exact Or.inr (Or.inl ⟨j, by omega, h3, h4⟩)
      · exact Or.inr (Or.inr ⟨j, by omega, h3, h4⟩)
    · rintro (h3 | ⟨i, hi, h3, h4⟩ | ⟨i, hi, h3, h4⟩)
      · exact Or.inl (Or.inl (Or.inl h3))
      · by_cases hij : i = j
        · subst hij; exact Or.inl (Or.inr ⟨h3, h4⟩)
        · exact Or.inl (Or.inl (Or.inr (Or.inl ⟨i, by omega, h3, h4⟩)))
      · by_cases hij : i = j
        · subst hij; exact Or.inr ⟨h3, h4⟩
        · exact Or.inl (Or.inl (Or.inr (Or.inr ⟨i, by omega, h3, h4⟩)))
theorem wvP_eq (hw : wf n B) (h5 : n ≤ 5) {T : Nat → Nat} (hT : wvP n B n 0 T) : T = wvn n B := by
  obtain ⟨h1, h2⟩ := wvt_wf hw h5 n (Nat.le_refl n)
  have hall2 : 2 ^ (n + n) - 1 < 2048 := al_lt (by omega)
  have hlt : nd (2 ^ (n + n) - 1) (2 ^ n - 1) < 2 ^ (n + n) := by
    have a1 : nd (2 ^ (n + n) - 1) (2 ^ n - 1) ≤ 2 ^ (n + n) - 1 := Nat.and_le_left
    have a3 := Nat.two_pow_pos (n + n)
    omega
  have hs : ∀ y, (nd (2 ^ (n + n) - 1) (2 ^ n - 1)).testBit y = true ↔ (n ≤ y ∧ y < n + n) := by
    intro y
    rw [nd_tb hall2, Nat.testBit_two_pow_sub_one, Nat.testBit_two_pow_sub_one, Bool.and_eq_true, decide_eq_true_eq, Bool.not_eq_true', decide_eq_false_iff_not]
    omega
  funext x
  apply tb_eq
  intro y
  show _ ↔ (ah (n + n) (wvt n B n) (nd (2 ^ (n + n) - 1) (2 ^ n - 1)) x).testBit y = true
  rw [hT x y, ah_tb h1 hlt, Bool.or_eq_true, Bool.or_eq_true, Bool.and_eq_true, Bool.and_eq_true, decide_eq_true_eq, decide_eq_true_eq, hs, hs, h2]
  constructor
  · rintro (h3 | ⟨i, hi, h3, ⟨h4, h6⟩ | ⟨h4, h6, h7⟩⟩ | ⟨i, hi, h3, ⟨h4, h6⟩ | ⟨h4, h6, h7⟩⟩)
    · exact Or.inl (Or.inl (Or.inl h3))
    · rcases h6 with h6 | h6
      · exact Or.inl (Or.inl (Or.inr (Or.inl ⟨i, h4, h3, h6⟩)))
      · exact Or.inr ⟨by omega, by omega⟩
    · omega
    · rcases h6 with h6 | h6
      · exact Or.inl (Or.inl (Or.inr (Or.inr ⟨i, h4, h3, h6⟩)))
      · exact Or.inl (Or.inr ⟨by omega, by omega⟩)
    · omega
  · rintro (((h3 | ⟨i, hi, h3, h4⟩ | ⟨i, hi, h3, h4⟩) | ⟨h3, h4⟩) | ⟨h3, h4⟩)
    · exact Or.inl h3
    · exact Or.inr (Or.inl ⟨i, hi, h3, Or.inl ⟨hi, Or.inl h4⟩⟩)
    · exact Or.inr (Or.inr ⟨i, hi, h3, Or.inl ⟨hi, Or.inl h4⟩⟩)
    · exact Or.inr (Or.inr ⟨y - n, by omega, by omega, Or.inl ⟨by omega, Or.inr (by omega)⟩⟩)
    · exact Or.inr (Or.inl ⟨x - n, by omega, by omega, Or.inl ⟨by omega, Or.inr (by omega)⟩⟩)
/-- the model's joining -/
theorem e_weave72 {T0 : Nat → Nat} (hw : wf n B) (h5 : n ≤ 5) (hm : mo σ (2 * n + 1) T0) (h0 : wvP n B 0 0 T0) (h20 : ∀ h, h < 11 → σ.1 20 (1 + h) = nI (B h)) : ∃ b, f_70_72 tT 0 (nI n) (nI 0) σ = some b ∧ ∃ υ, b = (nI (2 * n + 1), υ) ∧ fr tn σ υ ∧ mo υ (2 * n + 1) (wvn n B) := by
  unfold f_70_72
  refine lp_for (F := fun s : Int32 × px_M => F_70_72 tT 0 (nI n) s.1 s.2) (fun h q => ∃ ρ T, q = (nI h, ρ) ∧ fr tn σ ρ ∧ mo ρ (2 * n + 1) T ∧ wvP n B h 0 T) (fun b => ∃ υ, b = (nI (2 * n + 1), υ) ∧ fr tn σ υ ∧ mo υ (2 * n + 1) (wvn n B)) n (fun h q hh hI => ?_) (fun q hI => ?_) 0 (nI 0, σ) (by omega) ⟨σ, T0, rfl, fr_rf _ _, hm, h0⟩
  · obtain ⟨ρ, T, rfl, g1, g2, g3⟩ := hI
    have key : ∃ b, f_70_79 tT 0 (nI n) (nI h) (nI 0) ρ = some b ∧ ∃ υ T', b = .inl (nI (h + 1), υ) ∧ fr tn σ υ ∧ mo υ (2 * n + 1) T' ∧ wvP n B (h + 1) 0 T' := by
      unfold f_70_79
      refine lp_for (F := fun s : Int32 × px_M => F_70_79 tT 0 (nI n) (nI h) s.1 s.2) (fun k q => ∃ ρ T, q = (nI k, ρ) ∧ fr tn σ ρ ∧ mo ρ (2 * n + 1) T ∧ wvP n B h k T) (fun b => ∃ υ T', b = .inl (nI (h + 1), υ) ∧ fr tn σ υ ∧ mo υ (2 * n + 1) T' ∧ wvP n B (h + 1) 0 T') n (fun k q hk hI => ?_) (fun q hI => ?_) 0 (nI 0, ρ) (by omega) ⟨ρ, T, rfl, g1, g2, g3⟩
      · obtain ⟨ρ, T, rfl, g1, g2, g3⟩ := hI
        have hs := wvP_S hh hk g3
        have hr : ρ.1 20 (1 + h) = nI (B h) := by rw [g1.1 20 (1 + h) rfl]; exact h20 h (by omega)
        obtain ⟨hR, -, e1, -⟩ := id g2
        have ei := e_isIn ρ (s := B h) (j := k) (by have := wf_2048 hw h; omega) (by omega)
        have hB := wf_2048 hw h
        have a1 : ¬ nI n ≤ nI k := by rw [nI_leI (by omega) (by omega)]; omega
        have c1 : vp_in (nI (1 + h)) 12 := (vp_in_eq (by omega)).mpr (by omega)
        have c2 : (nI (1 + h)).toNatClampNeg = 1 + h := nI_clamp (by omega)
        have c3 : (nI (B h)).toInt64 = lN (B h) := nI_l (by omega)
        cases hb : (B h).testBit k with
        | false =>
          rw [hb] at ei
          refine ⟨(nI (k + 1), ρ), ?_, ρ, T, rfl, g1, g2, by rw [hb, if_neg (by simp)] at hs; exact hs⟩
          dsimp only
          unfold F_70_79 f_70_111
          simp only [a1, la_0, la_20, rm_0_20 hR, gd_tt, oA_arr, px_obj_s, Option.bind_some, Option.map_some, Option.bind_none, eq_self, true_or, or_true, px_av_0, px_av_1, px_av_2, px_av_10, px_av_11, bn, wi_1, wi_2, wl_1, wl_21, wl_22, wr_1, wr_21, wr_22, Sum.elim_inl, Sum.elim_inr, ↓reduceIte, Nat.reduceLT, Nat.reduceLeDiff, not_false_eq_true, not_true_eq_false, Nat.reduceEqDiff, Nat.reduceAdd, reduceCtorEq, and_true, true_and, and_false, false_and, false_or, or_false, nI_add, c1, c2, hr, c3, ei, mb_f0]
        | true =>
          rw [hb] at ei
          obtain ⟨υ, q1, q2, q3⟩ := e_joins g2 (a := n + h) (b := k) (by omega) (by omega) (by omega)
          refine ⟨(nI (k + 1), υ), ?_, υ, _, rfl, fr_tr g1 q2, q3, by rw [if_pos hb] at hs; exact hs⟩
          have d1 : ¬ (nI 1 = nI 0) := by decide
          dsimp only
          unfold F_70_79 f_70_111
          simp only [a1, la_0, la_20, rm_0_20 hR, rm_0_1 hR, gd_tt, oA_arr, px_obj_s, Option.bind_some, Option.map_some, Option.bind_none, eq_self, true_or, or_true, px_av_0, px_av_1, px_av_2, px_av_10, px_av_11, bn, wi_1, wi_2, wl_1, wl_21, wl_22, wr_1, wr_21, wr_22, Sum.elim_inl, Sum.elim_inr, ↓reduceIte, Nat.reduceLT, Nat.reduceLeDiff, not_false_eq_true, not_true_eq_false, Nat.reduceEqDiff, Nat.reduceAdd, reduceCtorEq, and_true, true_and, and_false, false_and, false_or, or_false, nI_add, c1, c2, hr, c3, ei, mb_t1, d1, q1]
      · obtain ⟨ρ, T, rfl, g1, g2, g3⟩ := hI
        obtain ⟨hR, -, e1, -⟩ := id g2
        obtain ⟨υ, q1, q2, q3⟩ := e_joins g2 (a := n + h) (b := 2 * n) (by omega) (by omega) (by omega)
        refine ⟨.inl (nI (h + 1), υ), ?_, υ, _, rfl, fr_tr g1 q2, q3, wvP_R hw hh g3⟩
        have a1 : nI n ≤ nI n := by rw [nI_leI (by omega) (by omega)]; omega
        dsimp only
        unfold F_70_79
        simp only [a1, la_0, rm_0_1 hR, gd_tt, oA_arr, px_obj_s, Option.bind_some, Option.map_some, Option.bind_none, eq_self, true_or, or_true, px_av_0, px_av_1, px_av_2, px_av_10, px_av_11, bn, wi_1, wi_2, wl_1, wl_21, wl_22, wr_1, wr_21, wr_22, Sum.elim_inl, Sum.elim_inr, ↓reduceIte, Nat.reduceLT, Nat.reduceLeDiff, not_false_eq_true, not_true_eq_false, Nat.reduceEqDiff, Nat.reduceAdd, reduceCtorEq, and_true, true_and, and_false, false_and, false_or, or_false, nI_add, pk_mul, q1]
    obtain ⟨b, q1, υ, T', rfl, q2, q3, q4⟩ := key
    refine ⟨(nI (h + 1), υ), ?_, υ, T', rfl, q2, q3, q4⟩
    have a1 : ¬ nI n ≤ nI h := by rw [nI_leI (by omega) (by omega)]; omega
    dsimp only
    unfold F_70_72
    simp only [a1, ↓reduceIte, q1]
  · obtain ⟨ρ, T, rfl, g1, g2, g3⟩ := hI
    obtain ⟨hR, -, e1, -⟩ := id g2
    refine ⟨(nI (2 * n + 1), ρ), ?_, ρ, rfl, g1, by rw [← wvP_eq hw h5 g3]; exact g2⟩
    have a1 : nI n ≤ nI n := by rw [nI_leI (by omega) (by omega)]; omega
    have c1 : vp_in (nI 1) 3216 := (vp_in_eq (by omega)).mpr (by omega)
    have c2 : (nI 1).toNatClampNeg = 1 := nI_clamp (by omega)
    dsimp only
    unfold F_70_72
    simp only [a1, la_0, la_1, rm_0_1 hR, gd_tt, oA_arr, px_obj_s, Option.bind_some, Option.map_some, Option.bind_none, eq_self, true_or, or_true, px_av_0, px_av_1, px_av_2, px_av_10, px_av_11, bn, wi_1, wi_2, wl_1, wl_21, wl_22, wr_1, wr_21, wr_22, Sum.elim_inl, Sum.elim_inr, ↓reduceIte, Nat.reduceLT, Nat.reduceLeDiff, not_false_eq_true, not_true_eq_false, Nat.reduceEqDiff, Nat.reduceAdd, reduceCtorEq, and_true, true_and, and_false, false_and, false_or, or_false, c1, c2, e1]
theorem e_weave45 (h5 : n ≤ 5) (hm : mo σ (2 * n + 1) B) (hw : wf n B) (h20 : ∀ h, h < 11 → σ.1 20 (1 + h) = nI (B h)) : ∃ b, f_70_45 tT 0 (nI n) (nI n) σ = some b ∧ ∃ υ, b = (nI (2 * n + 1), υ) ∧ fr tn σ υ ∧ mo υ (2 * n + 1) (wvn n B) := by
  unfold f_70_45
  refine lp_for (F := fun s : Int32 × px_M => F_70_45 tT 0 (nI n) s.1 s.2) (fun h q => ∃ ρ, q = (nI (n + h), ρ) ∧ fr tn σ ρ ∧ mo ρ (2 * n + 1) B) (fun b => ∃ υ, b = (nI (2 * n + 1), υ) ∧ fr tn σ υ ∧ mo υ (2 * n + 1) (wvn n B)) (n + 1) (fun h q hh hI => ?_) (fun q hI => ?_) 0 (nI n, σ) (by omega) ⟨σ, rfl, fr_rf _ _, hm⟩
  · obtain ⟨ρ, rfl, g1, hR, hw2, e1, hnb⟩ := hI
    have hB0 : B (n + h) = 0 := hw.2.2.1 _ (by omega)
    refine ⟨(nI (n + h + 1), px_wi ρ 1 (2 + (n + h)) (nI 0)), ?_, _, rfl, fr_wi g1 _ (tn_t (by omega) (by omega)), hR, hw2, ?_, fun x hx => ?_⟩
    · have a1 : ¬ nI (2 * n + 1) ≤ nI (n + h) := by rw [nI_leI (by omega) (by omega)]; omega
      have c1 : vp_in (nI 1) 3216 := (vp_in_eq (by omega)).mpr (by omega)
      have c2 : (nI 1).toNatClampNeg = 1 := nI_clamp (by omega)
      have c3 : vp_in (nI (2 + (n + h))) 3216 := (vp_in_eq (by omega)).mpr (by omega)
      have c4 : (nI (2 + (n + h))).toNatClampNeg = 2 + (n + h) := nI_clamp (by omega)
      dsimp only
      unfold F_70_45
      simp only [la_0, la_1, rm_0_1 hR, gd_tt, oA_arr, px_obj_s, Option.bind_some, Option.map_some, Option.bind_none, eq_self, true_or, or_true, px_av_0, px_av_1, px_av_2, px_av_10, px_av_11, bn, wi_1, wi_2, wl_1, wl_21, wl_22, wr_1, wr_21, wr_22, Sum.elim_inl, Sum.elim_inr, ↓reduceIte, Nat.reduceLT, Nat.reduceLeDiff, not_false_eq_true, not_true_eq_false, Nat.reduceEqDiff, Nat.reduceAdd, reduceCtorEq, and_true, true_and, and_false, false_and, false_or, or_false, c1, c2, e1, a1, nI_add, c3, c4]
    · show px_up ρ.1 1 (2 + (n + h)) _ 1 1 = _
      rw [up_s, if_neg (by omega)]; exact e1
    · show px_up ρ.1 1 (2 + (n + h)) _ 1 (2 + x) = _
      rw [up_s]
      by_cases hxn : x = n + h
      · subst hxn; rw [if_pos rfl, hB0]
      · rw [if_neg (by omega)]; exact hnb x hx
  · obtain ⟨ρ, rfl, g1, g2⟩ := hI
    obtain ⟨hR, -, e1, -⟩ := id g2
    obtain ⟨b, q1, υ, rfl, q2, q3⟩ := e_weave72 hw h5 g2 (fun x y => ⟨fun h => Or.inl h, fun h => by
      rcases h with h | ⟨i, hi, -, ⟨h3, -⟩ | ⟨-, h3, -⟩⟩ | ⟨i, hi, -, ⟨h3, -⟩ | ⟨-, h3, -⟩⟩
      · exact h
      all_goals omega⟩) (fun h hh => by rw [g1.1 20 (1 + h) rfl]; exact h20 h hh)
    refine ⟨(nI (2 * n + 1), υ), ?_, υ, rfl, fr_tr g1 q2, q3⟩
    have a1 : nI (2 * n + 1) ≤ nI (n + (n + 1)) := by rw [nI_leI (by omega) (by omega)]; omega
    have c1 : vp_in (nI 1) 3216 := (vp_in_eq (by omega)).mpr (by omega)
    have c2 : (nI 1).toNatClampNeg = 1 := nI_clamp (by omega)
    dsimp only
    unfold F_70_45
    simp only [la_0, la_1, rm_0_1 hR, gd_tt, oA_arr, px_obj_s, Option.bind_some, Option.map_some, Option.bind_none, eq_self, true_or, or_true, px_av_0, px_av_1, px_av_2, px_av_10, px_av_11, bn, wi_1, wi_2, wl_1, wl_21, wl_22, wr_1, wr_21, wr_22, Sum.elim_inl, Sum.elim_inr, ↓reduceIte, Nat.reduceLT, Nat.reduceLeDiff, not_false_eq_true, not_true_eq_false, Nat.reduceEqDiff, Nat.reduceAdd, reduceCtorEq, and_true, true_and, and_false, false_and, false_or, or_false, c1, c2, e1, a1, q1]
end
