/-! the fewest colours, as the class finds them -/
section
variable {σ τ : px_M} {P t n : Nat} {B W : Nat → Nat} {s k : Nat}
theorem c_fill {A L : Nat} (hl : px_lay tT A = some (.inr (0, L))) (hL : L < 2 ^ 31) : ∃ υ, f_22000 tT σ A (nI 0) = some υ ∧ fr (on A) σ υ ∧ ∀ j, j < L → υ.1 A j = nI 0 := by
  have lp : ∃ υ, f_22000_5 tT A (nI 0) (nI L) (nI 0) σ = some υ ∧ fr (on A) σ υ ∧ ∀ j, j < L → υ.1 A j = nI 0 := by
    unfold f_22000_5
    exact lp_for (F := fun q : Int32 × px_M => F_22000_5 tT A (nI 0) (nI L) q.1 q.2) (fun j q => q.1 = nI j ∧ fr (on A) σ q.2 ∧ ∀ i, i < j → q.2.1 A i = nI 0) (fun b => fr (on A) σ b ∧ ∀ j, j < L → b.1 A j = nI 0) L (fun j q hj hI => by
      obtain ⟨x, υ⟩ := q
      obtain ⟨hx, h1, h2⟩ := hI
      dsimp only at hx h1 h2
      subst hx
      refine ⟨(nI (j + 1), px_wi υ A j (nI 0)), ?_, rfl, fr_wi h1 _ (on_t _ _), fun i hi => ?_⟩
      · simp (disch := omega) only [F_22000_5, hl, gd_tt, oA_arr, px_obj_s, Option.bind_some, Option.map_some, Option.bind_none, eq_self, true_or, or_true, px_av_0, px_av_1, px_av_2, px_av_10, px_av_11, bn, wi_1, wi_2, wl_1, wl_21, wl_22, wr_1, wr_21, wr_22, Sum.elim_inl, Sum.elim_inr, ↓reduceIte, Nat.reduceLT, Nat.reduceLeDiff, not_false_eq_true, not_true_eq_false, Nat.reduceEqDiff, Nat.reduceAdd, reduceCtorEq, and_true, true_and, and_false, false_and, false_or, or_false, true_and, and_true, ni_divL, ni_subL, nI_add, pk_mul, nI_leI, nI_ltI, nI_eq, vp_in_eq, nI_clamp, ↓ni_tst, ni_tst2, fa_and, fa_or, ni_bit1, ni_1s, nI_l, mb_eq0, mb_ne0, mb_eq1, gd_tt, gd_t, bft]
        rw [if_neg (by omega)]
      · show px_up υ.1 A j _ A i = _
        rw [up_s]
        by_cases hij : i = j
        · rw [if_pos hij]
        · rw [if_neg hij]; exact h2 i (by omega)) (fun q hI => by
      obtain ⟨x, υ⟩ := q
      obtain ⟨hx, h1, h2⟩ := hI
      dsimp only at hx h1 h2
      subst hx
      refine ⟨υ, ?_, h1, h2⟩
      simp (disch := omega) only [F_22000_5, gd_tt, oA_arr, px_obj_s, Option.bind_some, Option.map_some, Option.bind_none, eq_self, true_or, or_true, px_av_0, px_av_1, px_av_2, px_av_10, px_av_11, bn, wi_1, wi_2, wl_1, wl_21, wl_22, wr_1, wr_21, wr_22, Sum.elim_inl, Sum.elim_inr, ↓reduceIte, Nat.reduceLT, Nat.reduceLeDiff, not_false_eq_true, not_true_eq_false, Nat.reduceEqDiff, Nat.reduceAdd, reduceCtorEq, and_true, true_and, and_false, false_and, false_or, or_false, true_and, and_true, ni_divL, ni_subL, nI_add, pk_mul, nI_leI, nI_ltI, nI_eq, vp_in_eq, nI_clamp, ↓ni_tst, ni_tst2, fa_and, fa_or, ni_bit1, ni_1s, nI_l, mb_eq0, mb_ne0, mb_eq1, gd_tt, gd_t, bft]
      rw [if_pos (by omega)]) 0 (nI 0, σ) (by omega) ⟨rfl, fr_rf _ _, fun i hi => absurd hi (by omega)⟩
  obtain ⟨υ, q1, q2, q3⟩ := lp
  refine ⟨υ, ?_, q2, q3⟩
  simp only [f_22000, hl, gd_tt, oA_arr, px_obj_s, Option.bind_some, Option.map_some, Option.bind_none, eq_self, true_or, or_true, px_av_0, px_av_1, px_av_2, px_av_10, px_av_11, bn, wi_1, wi_2, wl_1, wl_21, wl_22, wr_1, wr_21, wr_22, Sum.elim_inl, Sum.elim_inr, ↓reduceIte, Nat.reduceLT, Nat.reduceLeDiff, not_false_eq_true, not_true_eq_false, Nat.reduceEqDiff, Nat.reduceAdd, reduceCtorEq, and_true, true_and, and_false, false_and, false_or, or_false, q1]
/-- fewer than k have at most k - 1 colours -/
theorem pigeon (c : Nat → Nat) : ∀ k S, S < 2048 → bc 11 S < k → ∃ e, e < k ∧ ∀ x, S.testBit x = true → c x ≠ e := by
  intro k
  induction k with
  | zero => intro S _ h; omega
  | succ k ih =>
    intro S hS h
    by_cases hq : ∃ x, S.testBit x = true ∧ c x = k
    · obtain ⟨x, x1, x2⟩ := hq
      have h1 := bc_ssub (s := nd S (2 ^ x)) (u := S) hS (fun i hi => by
        rw [nd_tb hS, Bool.and_eq_true] at hi
        exact hi.1) (fun q => by
        have h2 := x1
        rw [← q, nd_tb hS, Nat.testBit_two_pow] at h2
        simp at h2)
      obtain ⟨e, e1, e2⟩ := ih (nd S (2 ^ x)) (nd_lt hS) (by omega)
      refine ⟨e, by omega, fun y hy => ?_⟩
      by_cases hyx : y = x
      · subst hyx; omega
      · refine e2 y ?_
        rw [nd_tb hS, hy, Nat.testBit_two_pow]
        simp
        exact fun q => hyx q.symm
    · exact ⟨k, by omega, fun x hx q => hq ⟨x, hx, q⟩⟩
def PZ (B : Nat → Nat) (n left k : Nat) : Prop := PE B n left k (fun _ => 0)
theorem PZ_peel (hw : wf n B) {left h : Nat} (hl : left < 2 ^ n) (hb : bc 11 (B h &&& left) < k) : PZ B n left k ↔ PZ B n (nd left (2 ^ h)) k := by
  have hl11 : left < 2048 := Nat.lt_of_lt_of_le hl (pw_le hw.1)
  have hndb : ∀ x, (nd left (2 ^ h)).testBit x = true ↔ left.testBit x = true ∧ x ≠ h := fun x => by
    rw [nd_tb hl11, Nat.testBit_two_pow, Bool.and_eq_true, Bool.not_eq_true', decide_eq_false_iff_not]
    exact ⟨fun q => ⟨q.1, fun z => q.2 z.symm⟩, fun q => ⟨q.1, fun z => q.2 z.symm⟩⟩
  constructor
  · rintro ⟨c, h1, h2⟩
    exact ⟨c, fun x hx hlx => h1 x hx ((hndb x).mp hlx).1, fun x y hx hy hlx hly hxy => h2 x y hx hy ((hndb x).mp hlx).1 ((hndb y).mp hly).1 hxy⟩
  · rintro ⟨c, h1, h2⟩
    obtain ⟨e, e1, e2⟩ := pigeon c k (B h &&& left) (and_lt (wf_2048 hw h)) hb
    refine ⟨fun x => if x = h then e else c x, fun x hx hlx => ?_, fun x y hx hy hlx hly hxy => ?_⟩
    · refine ⟨?_, by simp⟩
      dsimp only
      split
      · exact e1
      · rename_i hxh
        exact (h1 x hx ((hndb x).mpr ⟨hlx, hxh⟩)).1
    · dsimp only
      by_cases hxh : x = h
      · subst hxh
        have hyx : y ≠ x := (wf_ne hw hxy).symm
        rw [if_pos rfl, if_neg hyx]
        exact fun q => e2 y (by rw [Nat.testBit_and, hxy, hly]; rfl) q.symm
      · rw [if_neg hxh]
        by_cases hyh : y = h
        · subst hyh
          rw [if_pos rfl]
          exact e2 x (by rw [Nat.testBit_and, wf_s hw hxy, hlx]; rfl)
        · rw [if_neg hyh]
          exact h2 x y hx hy ((hndb x).mpr ⟨hlx, hxh⟩) ((hndb y).mpr ⟨hly, hyh⟩) hxy
theorem PZ_col (hw : wf n B) (hs : s < 2 ^ n) : PZ B n s k ↔ col B n s k := by
  constructor
  · rintro ⟨c, h1, h2⟩
    exact ⟨c, fun x hx hsx => (h1 x hx hsx).1, fun x y hx hy hsx hsy hxy => h2 x y hx hy hsx hsy hxy⟩
  · rintro ⟨c, h1, h2⟩
    exact ⟨c, fun x hx hsx => ⟨h1 x hx hsx, by simp⟩, fun x y hx hy hsx hsy hxy => h2 x y hx hy hsx hsy hxy⟩
theorem c_hard (hp : pt σ P t n B W) (hs : s < 2 ^ n) (hk : k ≤ 11) : ∃ L, f_8003 tT σ P (nI s) (nI k) = some (nI L) ∧ L < 2 ^ n ∧ (PZ B n s k ↔ PZ B n L k) := by
  obtain ⟨p1, p2, p3, p4, hc, p6, p7⟩ := id hp
  obtain ⟨l1, l2, hr, hw, h1, hnb⟩ := hc
  have hn := hw.1
  have hp2 := pw_le hn
  have inner : ∀ (L0 L turn : Nat), turn < 11 → L < 2 ^ n → L0 < 2 ^ n → (PZ B n s k ↔ PZ B n L k) → ∃ b, f_8003_18 tT σ P (nI k) (nI turn) (nI L0) (nI L) (nI 0) = some b ∧ ∃ L', L' < 2 ^ n ∧ (PZ B n s k ↔ PZ B n L' k) ∧ (b = .inl (nI L', nI (turn + 1)) ∨ b = .inr (nI L')) := by
    intro L0 L turn ht hL hL0 hPZ
    unfold f_8003_18
    refine lp_for (F := fun q : Int32 × Int32 => F_8003_18 tT σ P (nI k) (nI turn) (nI L0) q.1 q.2) (fun j q => ∃ M, q = (nI M, nI j) ∧ M < 2 ^ n ∧ (PZ B n s k ↔ PZ B n M k)) (fun b => ∃ L', L' < 2 ^ n ∧ (PZ B n s k ↔ PZ B n L' k) ∧ (b = .inl (nI L', nI (turn + 1)) ∨ b = .inr (nI L'))) n (fun j q hj hI => ?_) (fun q hI => ?_) 0 (nI L, nI 0) (by omega) ⟨L, rfl, hL, hPZ⟩
    · obtain ⟨M, rfl, hM, hPM⟩ := hI
      have hA : B j &&& M < 2048 := and_lt (wf_2048 hw j)
      have hb := bc_le 11 (B j &&& M)
      by_cases hq : k ≤ bc 11 (B j &&& M)
      · refine ⟨(nI M, nI (j + 1)), ?_, M, rfl, hM, hPM⟩
        simp (disch := omega) only [F_8003_18, f_8003_58, p1, p4, l1, l2, hr, h1, gd_tt, oA_arr, px_obj_s, Option.bind_some, Option.map_some, Option.bind_none, eq_self, true_or, or_true, px_av_0, px_av_1, px_av_2, px_av_10, px_av_11, bn, wi_1, wi_2, wl_1, wl_21, wl_22, wr_1, wr_21, wr_22, Sum.elim_inl, Sum.elim_inr, ↓reduceIte, Nat.reduceLT, Nat.reduceLeDiff, not_false_eq_true, not_true_eq_false, Nat.reduceEqDiff, Nat.reduceAdd, reduceCtorEq, and_true, true_and, and_false, false_and, false_or, or_false, true_and, and_true, ni_divL, ni_subL, nI_add, pk_mul, nI_leI, nI_ltI, nI_eq, vp_in_eq, nI_clamp, ↓ni_tst, ni_tst2, fa_and, fa_or, ni_bit1, ni_1s, nI_l, mb_eq0, mb_ne0, mb_eq1, gd_tt, gd_t, bft, hnb, e_bitCount, ni_nd]
        rw [if_neg (by omega), if_pos hq]
      · refine ⟨(nI (nd M (2 ^ j)), nI (j + 1)), ?_, nd M (2 ^ j), rfl, Nat.lt_of_le_of_lt Nat.and_le_left hM, hPM.trans (PZ_peel hw hM (by omega))⟩
        simp (disch := omega) only [F_8003_18, f_8003_58, p1, p4, l1, l2, hr, h1, gd_tt, oA_arr, px_obj_s, Option.bind_some, Option.map_some, Option.bind_none, eq_self, true_or, or_true, px_av_0, px_av_1, px_av_2, px_av_10, px_av_11, bn, wi_1, wi_2, wl_1, wl_21, wl_22, wr_1, wr_21, wr_22, Sum.elim_inl, Sum.elim_inr, ↓reduceIte, Nat.reduceLT, Nat.reduceLeDiff, not_false_eq_true, not_true_eq_false, Nat.reduceEqDiff, Nat.reduceAdd, reduceCtorEq, and_true, true_and, and_false, false_and, false_or, or_false, true_and, and_true, ni_divL, ni_subL, nI_add, pk_mul, nI_leI, nI_ltI, nI_eq, vp_in_eq, nI_clamp, ↓ni_tst, ni_tst2, fa_and, fa_or, ni_bit1, ni_1s, nI_l, mb_eq0, mb_ne0, mb_eq1, gd_tt, gd_t, bft, hnb, e_bitCount, ni_nd]
        rw [if_neg (by omega), if_neg hq]
    · obtain ⟨M, rfl, hM, hPM⟩ := hI
      by_cases hq : M = L0
      · refine ⟨.inr (nI M), ?_, M, hM, hPM, Or.inr rfl⟩
        simp (disch := omega) only [F_8003_18, p1, p4, l1, h1, gd_tt, oA_arr, px_obj_s, Option.bind_some, Option.map_some, Option.bind_none, eq_self, true_or, or_true, px_av_0, px_av_1, px_av_2, px_av_10, px_av_11, bn, wi_1, wi_2, wl_1, wl_21, wl_22, wr_1, wr_21, wr_22, Sum.elim_inl, Sum.elim_inr, ↓reduceIte, Nat.reduceLT, Nat.reduceLeDiff, not_false_eq_true, not_true_eq_false, Nat.reduceEqDiff, Nat.reduceAdd, reduceCtorEq, and_true, true_and, and_false, false_and, false_or, or_false, true_and, and_true, ni_divL, ni_subL, nI_add, pk_mul, nI_leI, nI_ltI, nI_eq, vp_in_eq, nI_clamp, ↓ni_tst, ni_tst2, fa_and, fa_or, ni_bit1, ni_1s, nI_l, mb_eq0, mb_ne0, mb_eq1, gd_tt, gd_t, bft]
        rw [if_pos (by omega), if_pos hq]
      · refine ⟨.inl (nI M, nI (turn + 1)), ?_, M, hM, hPM, Or.inl rfl⟩
        simp (disch := omega) only [F_8003_18, p1, p4, l1, h1, gd_tt, oA_arr, px_obj_s, Option.bind_some, Option.map_some, Option.bind_none, eq_self, true_or, or_true, px_av_0, px_av_1, px_av_2, px_av_10, px_av_11, bn, wi_1, wi_2, wl_1, wl_21, wl_22, wr_1, wr_21, wr_22, Sum.elim_inl, Sum.elim_inr, ↓reduceIte, Nat.reduceLT, Nat.reduceLeDiff, not_false_eq_true, not_true_eq_false, Nat.reduceEqDiff, Nat.reduceAdd, reduceCtorEq, and_true, true_and, and_false, false_and, false_or, or_false, true_and, and_true, ni_divL, ni_subL, nI_add, pk_mul, nI_leI, nI_ltI, nI_eq, vp_in_eq, nI_clamp, ↓ni_tst, ni_tst2, fa_and, fa_or, ni_bit1, ni_1s, nI_l, mb_eq0, mb_ne0, mb_eq1, gd_tt, gd_t, bft]
        rw [if_pos (by omega), if_neg hq]
  unfold f_8003 f_8003_5
  obtain ⟨b, hb, L, rfl, r1, r2⟩ := lp_rel (F := fun q : Int32 × Int32 => F_8003_5 tT σ P (nI k) q.1 q.2) (fun j q => ∃ M, q = (nI M, nI j) ∧ M < 2 ^ n ∧ (PZ B n s k ↔ PZ B n M k)) (fun b => ∃ L, b = nI L ∧ L < 2 ^ n ∧ (PZ B n s k ↔ PZ B n L k)) 11 (fun j q hj hI => by
    obtain ⟨M, rfl, hM, hPM⟩ := hI
    by_cases hj11 : j = 11
    · subst hj11
      right
      refine ⟨nI M, ?_, M, rfl, hM, hPM⟩
      simp (disch := omega) only [F_8003_5, gd_tt, oA_arr, px_obj_s, Option.bind_some, Option.map_some, Option.bind_none, eq_self, true_or, or_true, px_av_0, px_av_1, px_av_2, px_av_10, px_av_11, bn, wi_1, wi_2, wl_1, wl_21, wl_22, wr_1, wr_21, wr_22, Sum.elim_inl, Sum.elim_inr, ↓reduceIte, Nat.reduceLT, Nat.reduceLeDiff, not_false_eq_true, not_true_eq_false, Nat.reduceEqDiff, Nat.reduceAdd, reduceCtorEq, and_true, true_and, and_false, false_and, false_or, or_false, true_and, and_true, ni_divL, ni_subL, nI_add, pk_mul, nI_leI, nI_ltI, nI_eq, vp_in_eq, nI_clamp, ↓ni_tst, ni_tst2, fa_and, fa_or, ni_bit1, ni_1s, nI_l, mb_eq0, mb_ne0, mb_eq1, gd_tt, gd_t, bft]
    · obtain ⟨b, q1, L', q2, q3, q4⟩ := inner M M j (by omega) hM hM hPM
      have hF : F_8003_5 tT σ P (nI k) (nI M) (nI j) = some b := by
        simp (disch := omega) only [F_8003_5, q1, gd_tt, oA_arr, px_obj_s, Option.bind_some, Option.map_some, Option.bind_none, eq_self, true_or, or_true, px_av_0, px_av_1, px_av_2, px_av_10, px_av_11, bn, wi_1, wi_2, wl_1, wl_21, wl_22, wr_1, wr_21, wr_22, Sum.elim_inl, Sum.elim_inr, ↓reduceIte, Nat.reduceLT, Nat.reduceLeDiff, not_false_eq_true, not_true_eq_false, Nat.reduceEqDiff, Nat.reduceAdd, reduceCtorEq, and_true, true_and, and_false, false_and, false_or, or_false, true_and, and_true, ni_divL, ni_subL, nI_add, pk_mul, nI_leI, nI_ltI, nI_eq, vp_in_eq, nI_clamp, ↓ni_tst, ni_tst2, fa_and, fa_or, ni_bit1, ni_1s, nI_l, mb_eq0, mb_ne0, mb_eq1, gd_tt, gd_t, bft]
        rw [if_neg (by omega)]
      rcases q4 with rfl | rfl
      · left
        exact ⟨_, hF, by omega, L', rfl, q2, q3⟩
      · right
        exact ⟨_, hF, L', rfl, q2, q3⟩) 0 (nI s, nI 0) (by omega) ⟨s, rfl, hs, Iff.rfl⟩
  exact ⟨L, hb, r1, r2⟩
theorem col_two (hw : wf n B) (hs : s < 2 ^ n) : col B n s 2 ↔ two (rs B s) := by
  constructor
  · rintro ⟨c, h1, h2⟩
    refine ⟨fun x => decide (c x = 0), fun x y hxy q => ?_⟩
    rw [rs_tb] at hxy
    simp only [Bool.and_eq_true] at hxy
    obtain ⟨⟨x1, x2⟩, x3⟩ := hxy
    have hx := wf_l hw x1
    have hy := wf_r hw x1
    have := h2 x y hx hy x2 x3 x1
    have a1 := h1 x hx x2
    have a2 := h1 y hy x3
    have : decide (c x = 0) = decide (c y = 0) := q
    by_cases e1 : c x = 0 <;> by_cases e2 : c y = 0 <;> simp [e1, e2] at this <;> omega
  · rintro ⟨c, hc⟩
    refine ⟨fun x => if c x then 1 else 0, fun x _ _ => by dsimp only; split <;> omega, fun x y hx hy hsx hsy hxy q => ?_⟩
    have := hc x y (by rw [rs_tb, hxy, hsx, hsy]; rfl)
    dsimp only at q
    cases h1 : c x <;> cases h2 : c y <;> simp_all
/-- what the painter's fewest may change -/
def SP (P l j : Nat) : Bool := l == P + 1 || (l == P && j == 2)
theorem c_fewest (hlP : px_lay tT P = some (.inl 8)) (hlP1 : px_lay tT (P + 1) = some (.inr (0, 11))) (hrP : σ.2.2 P 0 = some (P + 1)) (hDP2 : DR P 2 = true) (hDP0 : DR P 0 = false) (hDP : DR (P + 1) 2 = false) (hd1 : t ≠ P + 1) (hd2 : t ≠ P) (hd3 : t + 1 ≠ P + 1) (hd4 : t + 1 ≠ P) (hc : ct σ t n B) (hs : s < 2 ^ n) : ∃ υ, f_8002 tT σ P t (nI s) = some (nI (chi n B s), υ) ∧ fr (SP P) σ υ ∧ υ.2.2 P 2 = some t := by
  have hw := hc.2.2.2.1
  have hn := hw.1
  have hp := pw_le hn
  have hltn : ∀ j, j < n → B j < 2048 := fun j _ => wf_2048 hw j
  obtain ⟨ρ, hρ⟩ : ∃ ρ, px_wr σ P 2 (some t) = ρ := ⟨_, rfl⟩
  have hfρ : fr (SP P) σ ρ := by rw [← hρ]; exact fr_wr (fr_rf _ _) _ (by simp [SP]) hDP2
  have hctρ : ct ρ t n B := ct_fr hfρ (fun j => by simp [SP, hd1, hd2]) (fun j => by simp [SP, hd2, hd4]) hc
  have hr2 : ρ.2.2 P 2 = some t := by rw [← hρ]; exact px_up_s _ _ _ _
  have hr0 : ρ.2.2 P 0 = some (P + 1) := by rw [hfρ.2.2 P 0 (Or.inr hDP0)]; exact hrP
  have on_SP : ∀ {υ : px_M}, fr (on (P + 1)) ρ υ → fr (SP P) σ υ := fun h => fr_tr hfρ (fr_mono h (fun l j q => by
    simp only [SP, Bool.or_eq_false_iff, beq_eq_false_iff_ne] at q
    simp only [on, beq_eq_false_iff_ne]
    exact q.1))
  by_cases hs0 : s = 0
  · subst hs0
    have hchi : chi n B 0 = 0 := chi_uniq hw ⟨fun _ => 0, fun x _ h => by simp at h, fun x y _ _ h => by simp at h⟩ (fun j hj => absurd hj (by omega))
    refine ⟨ρ, ?_, hfρ, hr2⟩
    rw [hchi]
    simp only [f_8002, hlP, gd_tt, oA_arr, px_obj_s, Option.bind_some, Option.map_some, Option.bind_none, eq_self, true_or, or_true, px_av_0, px_av_1, px_av_2, px_av_10, px_av_11, bn, wi_1, wi_2, wl_1, wl_21, wl_22, wr_1, wr_21, wr_22, Sum.elim_inl, Sum.elim_inr, ↓reduceIte, Nat.reduceLT, Nat.reduceLeDiff, not_false_eq_true, not_true_eq_false, Nat.reduceEqDiff, Nat.reduceAdd, reduceCtorEq, and_true, true_and, and_false, false_and, false_or, or_false, hρ]
  · have hx : ∃ x, s.testBit x = true := by
      apply Classical.byContradiction
      intro hq
      apply hs0
      apply tb_eq
      intro i
      rw [Nat.zero_testBit]
      exact ⟨fun q => absurd ⟨i, q⟩ hq, fun q => by cases q⟩
    obtain ⟨x0, hx0⟩ := hx
    have hx0n := tb_lt hs hx0
    have no0 : ¬ col B n s 0 := fun ⟨c, h1, _⟩ => absurd (h1 x0 hx0n hx0) (by omega)
    have har := c_around hctρ (s := s) (by omega)
    have hal : ar B n s &&& s < 2048 := and_lt (ar_lt hltn)
    by_cases hE : ar B n s &&& s = 0
    · have hchi : chi n B s = 1 := chi_uniq hw ⟨fun _ => 0, fun x _ _ => Nat.one_pos, fun x y hx hy hsx hsy hxy => absurd ⟨ar_tb.mpr ⟨x, hx, hsx, hxy⟩, hsy⟩ (and_0iff.mp hE y)⟩ (fun j hj => by
        have : j = 0 := by omega
        subst this; exact no0)
      refine ⟨ρ, ?_, hfρ, hr2⟩
      rw [hchi]
      simp (disch := omega) only [f_8002, hlP, hρ, hr2, hctρ.1, har, gd_tt, oA_arr, px_obj_s, Option.bind_some, Option.map_some, Option.bind_none, eq_self, true_or, or_true, px_av_0, px_av_1, px_av_2, px_av_10, px_av_11, bn, wi_1, wi_2, wl_1, wl_21, wl_22, wr_1, wr_21, wr_22, Sum.elim_inl, Sum.elim_inr, ↓reduceIte, Nat.reduceLT, Nat.reduceLeDiff, not_false_eq_true, not_true_eq_false, Nat.reduceEqDiff, Nat.reduceAdd, reduceCtorEq, and_true, true_and, and_false, false_and, false_or, or_false, true_and, and_true, ni_divL, ni_subL, nI_add, pk_mul, nI_leI, nI_ltI, nI_eq, vp_in_eq, nI_clamp, ↓ni_tst, ni_tst2, fa_and, fa_or, ni_bit1, ni_1s, nI_l, mb_eq0, mb_ne0, mb_eq1, gd_tt, gd_t, bft, hs0, hE]
    · have no1 : ¬ col B n s 1 := fun ⟨c, h1, h2⟩ => hE (and_0iff.mpr (fun y hy => by
        obtain ⟨x, x1, x2, x3⟩ := ar_tb.mp hy.1
        have hyn := tb_lt hs hy.2
        have a1 := h1 x x1 x2
        have a2 := h1 y hyn hy.2
        exact h2 x y x1 hyn x2 hy.2 x3 (by omega)))
      have hhf := c_half hctρ hs
      have hsr : ∀ x y, (rs B s x).testBit y = true → s.testBit x = true := fun x y h => by
        rw [rs_tb] at h
        simp only [Bool.and_eq_true] at h
        exact h.1.2
      have h2 := fh_two (wf_rs hw s) hsr
      cases hq : fh (rs B s) n s n with
      | some p =>
        have hchi : chi n B s = 2 := chi_uniq hw ((col_two hw hs).mpr (h2.mp (by rw [hq]; simp))) (fun j hj => by
          have : j = 0 ∨ j = 1 := by omega
          rcases this with rfl | rfl
          · exact no0
          · exact no1)
        rw [hq] at hhf
        have hpl := (fh_lt (wf_rs hw s) (Nat.le_refl _) hq).1
        have hm1 := nI_m1 (b := p.1) (by omega)
        refine ⟨ρ, ?_, hfρ, hr2⟩
        rw [hchi]
        simp (disch := omega) only [f_8002, f_8002_38, hlP, hρ, hr2, hctρ.1, har, hhf, gd_tt, oA_arr, px_obj_s, Option.bind_some, Option.map_some, Option.bind_none, eq_self, true_or, or_true, px_av_0, px_av_1, px_av_2, px_av_10, px_av_11, bn, wi_1, wi_2, wl_1, wl_21, wl_22, wr_1, wr_21, wr_22, Sum.elim_inl, Sum.elim_inr, ↓reduceIte, Nat.reduceLT, Nat.reduceLeDiff, not_false_eq_true, not_true_eq_false, Nat.reduceEqDiff, Nat.reduceAdd, reduceCtorEq, and_true, true_and, and_false, false_and, false_or, or_false, true_and, and_true, ni_divL, ni_subL, nI_add, pk_mul, nI_leI, nI_ltI, nI_eq, vp_in_eq, nI_clamp, ↓ni_tst, ni_tst2, fa_and, fa_or, ni_bit1, ni_1s, nI_l, mb_eq0, mb_ne0, mb_eq1, gd_tt, gd_t, bft, hs0, hE, hm1]
      | none =>
        have no2 : ¬ col B n s 2 := fun q => h2.mpr ((col_two hw hs).mp q) hq
        rw [hq] at hhf
        have hp0 : ∀ υ, fr (on (P + 1)) ρ υ → (∀ c, c < 11 → υ.1 (P + 1) c = nI 0) → pt υ P t n B (fun _ => 0) := fun υ hf h0 => by
          have hon : ∀ l j, l ≠ P + 1 → on (P + 1) l j = false := fun l j q => by simp [on, q]
          exact ⟨hlP, hlP1, by rw [hf.2.2 P 0 (Or.inr hDP0)]; exact hr0, by rw [hf.2.2 P 2 (Or.inl (hon _ _ (by omega)))]; exact hr2, ct_fr hf (fun j => hon _ _ hd1) (fun j => hon _ _ hd3) hctρ, h0, fun _ => by show 0 < 2048; omega⟩
        have lp : ∃ υ, f_8002_42 tT P (nI s) (nI 3) ρ = some (nI (chi n B s), υ) ∧ fr (on (P + 1)) ρ υ := by
          unfold f_8002_42
          obtain ⟨b, hb, υ, rfl, r1⟩ := lp_rel (F := fun q : Int32 × px_M => F_8002_42 tT P (nI s) q.1 q.2) (fun j q => q.1 = nI (3 + j) ∧ fr (on (P + 1)) ρ q.2 ∧ ∀ e, e < 3 + j → ¬ col B n s e) (fun b => ∃ υ, b = (nI (chi n B s), υ) ∧ fr (on (P + 1)) ρ υ) 8 (fun j q hj hI => by
            obtain ⟨x, υ⟩ := q
            obtain ⟨hx, g1, g2⟩ := hI
            dsimp only at hx g1 g2
            subst hx
            by_cases hj8 : j = 8
            · subst hj8
              right
              refine ⟨(nI 11, υ), ?_, υ, by rw [chi_uniq hw (col_11 hw) g2], g1⟩
              simp (disch := omega) only [F_8002_42, gd_tt, oA_arr, px_obj_s, Option.bind_some, Option.map_some, Option.bind_none, eq_self, true_or, or_true, px_av_0, px_av_1, px_av_2, px_av_10, px_av_11, bn, wi_1, wi_2, wl_1, wl_21, wl_22, wr_1, wr_21, wr_22, Sum.elim_inl, Sum.elim_inr, ↓reduceIte, Nat.reduceLT, Nat.reduceLeDiff, not_false_eq_true, not_true_eq_false, Nat.reduceEqDiff, Nat.reduceAdd, reduceCtorEq, and_true, true_and, and_false, false_and, false_or, or_false, true_and, and_true, ni_divL, ni_subL, nI_add, pk_mul, nI_leI, nI_ltI, nI_eq, vp_in_eq, nI_clamp, ↓ni_tst, ni_tst2, fa_and, fa_or, ni_bit1, ni_1s, nI_l, mb_eq0, mb_ne0, mb_eq1, gd_tt, gd_t, bft]
            · have hru : υ.2.2 P 0 = some (P + 1) := by rw [g1.2.2 P 0 (Or.inr hDP0)]; exact hr0
              obtain ⟨ω, f1, f2, f3⟩ := c_fill (σ := υ) hlP1 (by omega)
              have hpt := hp0 ω (fr_tr g1 f2) (fun c hc => f3 c hc)
              obtain ⟨L, k1, k2, k3⟩ := c_hard (k := 3 + j) hpt hs (by omega)
              obtain ⟨b', ψ, w1, w2, w3, w4⟩ := c_paint (B := B) (k := 3 + j) hd1 hd2 hDP (by omega) 11 L 0 24 0 ω (fun _ => 0) (bc_le 11 L) (by omega) (by omega) hpt k2 (by omega) (fun _ _ => rfl) (fun _ => by simp)
              have hcol : b' = true ↔ col B n s (3 + j) := by rw [w4, ← PZ_col hw hs]; exact k3.symm
              have hF : F_8002_42 tT P (nI s) (nI (3 + j)) υ = if b' = true then some (.inr (nI (3 + j), ψ)) else some (.inl (nI (3 + (j + 1)), ψ)) := by
                simp (disch := omega) only [F_8002_42, f_8002_72, f_8002_74, hlP, hru, f1, k1, w1, gd_tt, oA_arr, px_obj_s, Option.bind_some, Option.map_some, Option.bind_none, eq_self, true_or, or_true, px_av_0, px_av_1, px_av_2, px_av_10, px_av_11, bn, wi_1, wi_2, wl_1, wl_21, wl_22, wr_1, wr_21, wr_22, Sum.elim_inl, Sum.elim_inr, ↓reduceIte, Nat.reduceLT, Nat.reduceLeDiff, not_false_eq_true, not_true_eq_false, Nat.reduceEqDiff, Nat.reduceAdd, reduceCtorEq, and_true, true_and, and_false, false_and, false_or, or_false, true_and, and_true, ni_divL, ni_subL, nI_add, pk_mul, nI_leI, nI_ltI, nI_eq, vp_in_eq, nI_clamp, ↓ni_tst, ni_tst2, fa_and, fa_or, ni_bit1, ni_1s, nI_l, mb_eq0, mb_ne0, mb_eq1, gd_tt, gd_t, bft]
                rw [if_neg (by omega)]
                cases b' <;> simp [Nat.add_assoc]
              cases b' with
              | true =>
                right
                exact ⟨(nI (3 + j), ψ), by rw [hF, if_pos rfl], ψ, by rw [chi_uniq hw (hcol.mp rfl) g2], fr_tr g1 (fr_tr f2 w2)⟩
              | false =>
                left
                refine ⟨(nI (3 + (j + 1)), ψ), by rw [hF, if_neg (by simp)], by omega, rfl, fr_tr g1 (fr_tr f2 w2), fun e he q => ?_⟩
                by_cases hej : e = 3 + j
                · subst hej
                  have := hcol.mpr q
                  cases this
                · exact g2 e (by omega) q) 0 (nI 3, ρ) (by omega) ⟨rfl, fr_rf _ _, fun e he => by
              have : e = 0 ∨ e = 1 ∨ e = 2 := by omega
              rcases this with rfl | rfl | rfl
              · exact no0
              · exact no1
              · exact no2⟩
          exact ⟨υ, hb, r1⟩
        obtain ⟨υ, q1, q2⟩ := lp
        refine ⟨υ, ?_, on_SP q2, by rw [q2.2.2 P 2 (Or.inl (by simp [on]))]; exact hr2⟩
        simp (disch := omega) only [f_8002, f_8002_40, hlP, hρ, hr2, hctρ.1, har, hhf, gd_tt, oA_arr, px_obj_s, Option.bind_some, Option.map_some, Option.bind_none, eq_self, true_or, or_true, px_av_0, px_av_1, px_av_2, px_av_10, px_av_11, bn, wi_1, wi_2, wl_1, wl_21, wl_22, wr_1, wr_21, wr_22, Sum.elim_inl, Sum.elim_inr, ↓reduceIte, Nat.reduceLT, Nat.reduceLeDiff, not_false_eq_true, not_true_eq_false, Nat.reduceEqDiff, Nat.reduceAdd, reduceCtorEq, and_true, true_and, and_false, false_and, false_or, or_false, true_and, and_true, ni_divL, ni_subL, nI_add, pk_mul, nI_leI, nI_ltI, nI_eq, vp_in_eq, nI_clamp, ↓ni_tst, ni_tst2, fa_and, fa_or, ni_bit1, ni_1s, nI_l, mb_eq0, mb_ne0, mb_eq1, gd_tt, gd_t, bft, hs0, hE]
        exact q1
end
