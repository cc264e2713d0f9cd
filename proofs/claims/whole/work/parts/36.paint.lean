/-! the class's painter -/
/-- a painter at P, over the town at t, with these wearers -/
def pt (σ : px_M) (P t n : Nat) (B W : Nat → Nat) : Prop := px_lay tT P = some (.inl 8) ∧ px_lay tT (P + 1) = some (.inr (0, 11)) ∧ σ.2.2 P 0 = some (P + 1) ∧ σ.2.2 P 2 = some t ∧ ct σ t n B ∧ (∀ c, c < 11 → σ.1 (P + 1) c = nI (W c)) ∧ ∀ c, W c < 2048
section
variable {σ τ : px_M} {P t n : Nat} {B W : Nat → Nat} {k : Nat}
theorem pt_on (hd1 : t ≠ P + 1) (hd2 : t ≠ P) (hDP : DR (P + 1) 2 = false) (h : fr (on (P + 1)) σ τ) (hp : pt σ P t n B W) {V : Nat → Nat} (hV : ∀ c, c < 11 → τ.1 (P + 1) c = nI (V c)) (hV2 : ∀ c, V c < 2048) : pt τ P t n B V := by
  obtain ⟨p1, p2, p3, p4, p5, -, -⟩ := hp
  have hon : ∀ l j, l ≠ P + 1 → on (P + 1) l j = false := fun l j q => by simp [on, q]
  exact ⟨p1, p2, by rw [h.2.2 P 0 (Or.inl (hon _ _ (by omega)))]; exact p3, by rw [h.2.2 P 2 (Or.inl (hon _ _ (by omega)))]; exact p4, ct_fr h (fun j => hon _ _ hd1) (fun j => hon _ _ (by omega)) p5, hV, hV2⟩
theorem c_mostBound (hp : pt σ P t n B W) {left used : Nat} (hl : left < 2 ^ n) (hl0 : left ≠ 0) (hu : used ≤ 11) : ∃ h, f_8005 tT σ P (nI left) (nI used) = some (nI h) ∧ left.testBit h = true := by
  obtain ⟨p1, p2, p3, p4, hc, p6, p7⟩ := id hp
  obtain ⟨l1, l2, hr, hw, h1, hnb⟩ := hc
  have hn := hw.1
  have hp2 := pw_le hn
  have inner : ∀ h (x3 x4 : Int32), h < n → ∃ b, f_8005_38 tT σ P (nI left) (nI used) x3 x4 (nI h) (nI 0) (nI 0) = some b ∧ ∃ cnt, cnt ≤ 11 ∧ b = .inl (if nI cnt ≤ x4 then (x3, x4, nI (h + 1)) else (nI h, nI cnt, nI (h + 1))) := by
    intro h x3 x4 hh
    unfold f_8005_38
    refine lp_for (F := fun q : Int32 × Int32 => F_8005_38 tT σ P (nI left) (nI used) x3 x4 (nI h) q.1 q.2) (fun j q => ∃ cnt, cnt ≤ j ∧ q = (nI cnt, nI j)) (fun b => ∃ cnt, cnt ≤ 11 ∧ b = .inl (if nI cnt ≤ x4 then (x3, x4, nI (h + 1)) else (nI h, nI cnt, nI (h + 1)))) used (fun j q hj hI => ?_) (fun q hI => ?_) 0 (nI 0, nI 0) (by omega) ⟨0, by omega, rfl⟩
    · obtain ⟨cnt, hcnt, rfl⟩ := hI
      have hA : W j &&& B h < 2048 := and_lt (p7 j)
      by_cases hz : W j &&& B h = 0
      · refine ⟨(nI cnt, nI (j + 1)), ?_, cnt, by omega, rfl⟩
        simp (disch := omega) only [F_8005_38, f_8005_75, p1, p2, p3, p4, l1, l2, hr, gd_tt, oA_arr, px_obj_s, Option.bind_some, Option.map_some, Option.bind_none, eq_self, true_or, or_true, px_av_0, px_av_1, px_av_2, px_av_10, px_av_11, bn, wi_1, wi_2, wl_1, wl_21, wl_22, wr_1, wr_21, wr_22, Sum.elim_inl, Sum.elim_inr, ↓reduceIte, Nat.reduceLT, Nat.reduceLeDiff, not_false_eq_true, not_true_eq_false, Nat.reduceEqDiff, Nat.reduceAdd, reduceCtorEq, and_true, true_and, and_false, false_and, false_or, or_false, true_and, and_true, ni_divL, ni_subL, nI_add, pk_mul, nI_leI, nI_ltI, nI_eq, vp_in_eq, nI_clamp, ↓ni_tst, ni_tst2, fa_and, fa_or, ni_bit1, ni_1s, nI_l, mb_eq0, mb_ne0, mb_eq1, gd_tt, gd_t, bft, p6, hnb]
        rw [if_neg (by omega), if_neg (by omega), if_pos hz]
      · refine ⟨(nI (cnt + 1), nI (j + 1)), ?_, cnt + 1, by omega, rfl⟩
        simp (disch := omega) only [F_8005_38, f_8005_75, p1, p2, p3, p4, l1, l2, hr, gd_tt, oA_arr, px_obj_s, Option.bind_some, Option.map_some, Option.bind_none, eq_self, true_or, or_true, px_av_0, px_av_1, px_av_2, px_av_10, px_av_11, bn, wi_1, wi_2, wl_1, wl_21, wl_22, wr_1, wr_21, wr_22, Sum.elim_inl, Sum.elim_inr, ↓reduceIte, Nat.reduceLT, Nat.reduceLeDiff, not_false_eq_true, not_true_eq_false, Nat.reduceEqDiff, Nat.reduceAdd, reduceCtorEq, and_true, true_and, and_false, false_and, false_or, or_false, true_and, and_true, ni_divL, ni_subL, nI_add, pk_mul, nI_leI, nI_ltI, nI_eq, vp_in_eq, nI_clamp, ↓ni_tst, ni_tst2, fa_and, fa_or, ni_bit1, ni_1s, nI_l, mb_eq0, mb_ne0, mb_eq1, gd_tt, gd_t, bft, p6, hnb]
        rw [if_neg (by omega), if_neg (by omega), if_neg hz]
    · obtain ⟨cnt, hcnt, rfl⟩ := hI
      refine ⟨_, ?_, cnt, by omega, rfl⟩
      dsimp only
      unfold F_8005_38
      rw [if_pos (by rw [nI_leI (by omega) (by omega)]; exact Nat.le_refl _)]
      by_cases hq : nI cnt ≤ x4
      · rw [if_pos hq, if_pos hq, nI_add]
      · rw [if_neg hq, if_neg hq, nI_add]
  unfold f_8005 f_8005_8
  obtain ⟨b, hb, h, rfl, hh⟩ := lp_for (F := fun q : Int32 × Int32 × Int32 => F_8005_8 tT σ P (nI left) (nI used) q.1 q.2.1 q.2.2) (fun j q => (q = (-1, -1, nI j) ∧ ∀ x, x < j → left.testBit x = false) ∨ ∃ b m, q = (nI b, nI m, nI j) ∧ left.testBit b = true) (fun b => ∃ h, b = nI h ∧ left.testBit h = true) n (fun j q hj hI => by
    cases hb : left.testBit j
    · rcases hI with ⟨rfl, h2⟩ | ⟨b, m, rfl, h2⟩
      · refine ⟨(-1, -1, nI (j + 1)), ?_, Or.inl ⟨rfl, fun x hx => ?_⟩⟩
        · simp (disch := omega) only [F_8005_8, p1, p4, l1, h1, gd_tt, oA_arr, px_obj_s, Option.bind_some, Option.map_some, Option.bind_none, eq_self, true_or, or_true, px_av_0, px_av_1, px_av_2, px_av_10, px_av_11, bn, wi_1, wi_2, wl_1, wl_21, wl_22, wr_1, wr_21, wr_22, Sum.elim_inl, Sum.elim_inr, ↓reduceIte, Nat.reduceLT, Nat.reduceLeDiff, not_false_eq_true, not_true_eq_false, Nat.reduceEqDiff, Nat.reduceAdd, reduceCtorEq, and_true, true_and, and_false, false_and, false_or, or_false, true_and, and_true, ni_divL, ni_subL, nI_add, pk_mul, nI_leI, nI_ltI, nI_eq, vp_in_eq, nI_clamp, ↓ni_tst, ni_tst2, fa_and, fa_or, ni_bit1, ni_1s, nI_l, mb_eq0, mb_ne0, mb_eq1, gd_tt, gd_t, bft, hb]
          rw [if_neg (by omega)]
        · by_cases hxj : x = j
          · subst hxj; exact hb
          · exact h2 x (by omega)
      · refine ⟨(nI b, nI m, nI (j + 1)), ?_, Or.inr ⟨b, m, rfl, h2⟩⟩
        simp (disch := omega) only [F_8005_8, p1, p4, l1, h1, gd_tt, oA_arr, px_obj_s, Option.bind_some, Option.map_some, Option.bind_none, eq_self, true_or, or_true, px_av_0, px_av_1, px_av_2, px_av_10, px_av_11, bn, wi_1, wi_2, wl_1, wl_21, wl_22, wr_1, wr_21, wr_22, Sum.elim_inl, Sum.elim_inr, ↓reduceIte, Nat.reduceLT, Nat.reduceLeDiff, not_false_eq_true, not_true_eq_false, Nat.reduceEqDiff, Nat.reduceAdd, reduceCtorEq, and_true, true_and, and_false, false_and, false_or, or_false, true_and, and_true, ni_divL, ni_subL, nI_add, pk_mul, nI_leI, nI_ltI, nI_eq, vp_in_eq, nI_clamp, ↓ni_tst, ni_tst2, fa_and, fa_or, ni_bit1, ni_1s, nI_l, mb_eq0, mb_ne0, mb_eq1, gd_tt, gd_t, bft, hb]
        rw [if_neg (by omega)]
    · rcases hI with ⟨rfl, h2⟩ | ⟨b, m, rfl, h2⟩
      · obtain ⟨r, q1, cnt, hcnt, rfl⟩ := inner j (-1) (-1) hj
        have hno : ¬ nI cnt ≤ -1 := by
          rw [fa_le, nI_toInt (by omega)]
          have : (-1 : Int32).toInt = -1 := by decide
          omega
        rw [if_neg hno] at q1
        refine ⟨(nI j, nI cnt, nI (j + 1)), ?_, Or.inr ⟨j, cnt, rfl, hb⟩⟩
        simp (disch := omega) only [F_8005_8, p1, p4, l1, h1, q1, gd_tt, oA_arr, px_obj_s, Option.bind_some, Option.map_some, Option.bind_none, eq_self, true_or, or_true, px_av_0, px_av_1, px_av_2, px_av_10, px_av_11, bn, wi_1, wi_2, wl_1, wl_21, wl_22, wr_1, wr_21, wr_22, Sum.elim_inl, Sum.elim_inr, ↓reduceIte, Nat.reduceLT, Nat.reduceLeDiff, not_false_eq_true, not_true_eq_false, Nat.reduceEqDiff, Nat.reduceAdd, reduceCtorEq, and_true, true_and, and_false, false_and, false_or, or_false, true_and, and_true, ni_divL, ni_subL, nI_add, pk_mul, nI_leI, nI_ltI, nI_eq, vp_in_eq, nI_clamp, ↓ni_tst, ni_tst2, fa_and, fa_or, ni_bit1, ni_1s, nI_l, mb_eq0, mb_ne0, mb_eq1, gd_tt, gd_t, bft, hb]
        rw [if_neg (by omega)]
      · obtain ⟨r, q1, cnt, hcnt, rfl⟩ := inner j (nI b) (nI m) hj
        by_cases hq : nI cnt ≤ nI m
        · rw [if_pos hq] at q1
          refine ⟨(nI b, nI m, nI (j + 1)), ?_, Or.inr ⟨b, m, rfl, h2⟩⟩
          simp (disch := omega) only [F_8005_8, p1, p4, l1, h1, q1, gd_tt, oA_arr, px_obj_s, Option.bind_some, Option.map_some, Option.bind_none, eq_self, true_or, or_true, px_av_0, px_av_1, px_av_2, px_av_10, px_av_11, bn, wi_1, wi_2, wl_1, wl_21, wl_22, wr_1, wr_21, wr_22, Sum.elim_inl, Sum.elim_inr, ↓reduceIte, Nat.reduceLT, Nat.reduceLeDiff, not_false_eq_true, not_true_eq_false, Nat.reduceEqDiff, Nat.reduceAdd, reduceCtorEq, and_true, true_and, and_false, false_and, false_or, or_false, true_and, and_true, ni_divL, ni_subL, nI_add, pk_mul, nI_leI, nI_ltI, nI_eq, vp_in_eq, nI_clamp, ↓ni_tst, ni_tst2, fa_and, fa_or, ni_bit1, ni_1s, nI_l, mb_eq0, mb_ne0, mb_eq1, gd_tt, gd_t, bft, hb]
          rw [if_neg (by omega)]
        · rw [if_neg hq] at q1
          refine ⟨(nI j, nI cnt, nI (j + 1)), ?_, Or.inr ⟨j, cnt, rfl, hb⟩⟩
          simp (disch := omega) only [F_8005_8, p1, p4, l1, h1, q1, gd_tt, oA_arr, px_obj_s, Option.bind_some, Option.map_some, Option.bind_none, eq_self, true_or, or_true, px_av_0, px_av_1, px_av_2, px_av_10, px_av_11, bn, wi_1, wi_2, wl_1, wl_21, wl_22, wr_1, wr_21, wr_22, Sum.elim_inl, Sum.elim_inr, ↓reduceIte, Nat.reduceLT, Nat.reduceLeDiff, not_false_eq_true, not_true_eq_false, Nat.reduceEqDiff, Nat.reduceAdd, reduceCtorEq, and_true, true_and, and_false, false_and, false_or, or_false, true_and, and_true, ni_divL, ni_subL, nI_add, pk_mul, nI_leI, nI_ltI, nI_eq, vp_in_eq, nI_clamp, ↓ni_tst, ni_tst2, fa_and, fa_or, ni_bit1, ni_1s, nI_l, mb_eq0, mb_ne0, mb_eq1, gd_tt, gd_t, bft, hb]
          rw [if_neg (by omega)]) (fun q hI => by
    rcases hI with ⟨rfl, h2⟩ | ⟨b, m, rfl, h2⟩
    · exfalso
      apply hl0
      apply tb_eq
      intro i
      rw [Nat.zero_testBit]
      constructor
      · intro q
        rw [h2 i (tb_lt hl q)] at q
        cases q
      · intro q; cases q
    · refine ⟨nI b, ?_, b, rfl, h2⟩
      simp (disch := omega) only [F_8005_8, p1, p4, l1, h1, gd_tt, oA_arr, px_obj_s, Option.bind_some, Option.map_some, Option.bind_none, eq_self, true_or, or_true, px_av_0, px_av_1, px_av_2, px_av_10, px_av_11, bn, wi_1, wi_2, wl_1, wl_21, wl_22, wr_1, wr_21, wr_22, Sum.elim_inl, Sum.elim_inr, ↓reduceIte, Nat.reduceLT, Nat.reduceLeDiff, not_false_eq_true, not_true_eq_false, Nat.reduceEqDiff, Nat.reduceAdd, reduceCtorEq, and_true, true_and, and_false, false_and, false_or, or_false, true_and, and_true, ni_divL, ni_subL, nI_add, pk_mul, nI_leI, nI_ltI, nI_eq, vp_in_eq, nI_clamp, ↓ni_tst, ni_tst2, fa_and, fa_or, ni_bit1, ni_1s, nI_l, mb_eq0, mb_ne0, mb_eq1, gd_tt, gd_t, bft]
      rw [if_pos (by omega)]) 0 (-1, -1, nI 0) (by omega) (Or.inl ⟨rfl, fun x hx => absurd hx (by omega)⟩)
  exact ⟨h, hb, hh⟩
theorem c_paint (hd1 : t ≠ P + 1) (hd2 : t ≠ P) (hDP : DR (P + 1) 2 = false) (hk : k ≤ 10) : ∀ m left used d depth (σ : px_M) (W : Nat → Nat), bc 11 left ≤ m → m < d → depth + m ≤ 11 → pt σ P t n B W → left < 2 ^ n → used ≤ k → (∀ c, used ≤ c → W c = 0) → (∀ c, W c &&& left = 0) → ∃ b υ, f_8004 tT d σ P (nI left) (nI used) (nI k) (nI depth) = some (mb b, υ) ∧ fr (on (P + 1)) σ υ ∧ (∀ c, c < 11 → υ.1 (P + 1) c = nI (W c)) ∧ (b = true ↔ PE B n left k W) := by
  intro m
  induction m with
  | zero =>
    intro left used d depth σ W hbc hd hdep hp hl hu hW hWl
    obtain ⟨d, rfl⟩ : ∃ d', d = d' + 1 := ⟨d - 1, by omega⟩
    have hw := hp.2.2.2.2.1.2.2.2.1
    have hl0 : left = 0 := bc_z (Nat.lt_of_lt_of_le hl (pw_le hw.1)) (by omega)
    subst hl0
    refine ⟨true, σ, ?_, fr_rf _ _, hp.2.2.2.2.2.1, fun _ => PE_0 W, fun _ => rfl⟩
    rw [f_8004_S]
    simp only [F_8004, gd_tt, oA_arr, px_obj_s, Option.bind_some, Option.map_some, Option.bind_none, eq_self, true_or, or_true, px_av_0, px_av_1, px_av_2, px_av_10, px_av_11, bn, wi_1, wi_2, wl_1, wl_21, wl_22, wr_1, wr_21, wr_22, Sum.elim_inl, Sum.elim_inr, ↓reduceIte, Nat.reduceLT, Nat.reduceLeDiff, not_false_eq_true, not_true_eq_false, Nat.reduceEqDiff, Nat.reduceAdd, reduceCtorEq, and_true, true_and, and_false, false_and, false_or, or_false]
    rfl
  | succ m ih =>
    intro left used d depth σ W hbc hd hdep hp hl hu hW hWl
    obtain ⟨d, rfl⟩ : ∃ d', d = d' + 1 := ⟨d - 1, by omega⟩
    obtain ⟨p1, p2, p3, p4, hc, p6, p7⟩ := id hp
    obtain ⟨l1, l2, hr, hw, h1, hnb⟩ := hc
    have hn := hw.1
    have hp2 := pw_le hn
    by_cases hl0 : left = 0
    · subst hl0
      refine ⟨true, σ, ?_, fr_rf _ _, p6, fun _ => PE_0 W, fun _ => rfl⟩
      rw [f_8004_S]
      simp only [F_8004, gd_tt, oA_arr, px_obj_s, Option.bind_some, Option.map_some, Option.bind_none, eq_self, true_or, or_true, px_av_0, px_av_1, px_av_2, px_av_10, px_av_11, bn, wi_1, wi_2, wl_1, wl_21, wl_22, wr_1, wr_21, wr_22, Sum.elim_inl, Sum.elim_inr, ↓reduceIte, Nat.reduceLT, Nat.reduceLeDiff, not_false_eq_true, not_true_eq_false, Nat.reduceEqDiff, Nat.reduceAdd, reduceCtorEq, and_true, true_and, and_false, false_and, false_or, or_false]
      rfl
    · obtain ⟨h, hmb, hh⟩ := c_mostBound hp hl hl0 (show used ≤ 11 by omega)
      have hhn := tb_lt hl hh
      have hrest : bc 11 (nd left (2 ^ h)) ≤ m := by
        have := bc_ssub (s := nd left (2 ^ h)) (u := left) (by omega) (fun i hi => by
          rw [nd_tb (by omega), Bool.and_eq_true] at hi
          exact hi.1) (fun q => by
          have h2 := hh
          rw [← q, nd_tb (by omega), Nat.testBit_two_pow] at h2
          simp at h2)
        omega
      have hrl : nd left (2 ^ h) < 2 ^ n := Nat.lt_of_le_of_lt Nat.and_le_left hl
      -- the loop over colours
      have loop : ∃ b, f_8004_42 tT (f_8004 tT d) P (nI used) (nI k) (nI depth) (nI h) (nI (nd left (2 ^ h))) (nI 0) σ = some b ∧ ∃ b' υ, b = (mb b', υ) ∧ fr (on (P + 1)) σ υ ∧ (∀ c, c < 11 → υ.1 (P + 1) c = nI (W c)) ∧ (b' = true ↔ PE B n left k W) := by
        unfold f_8004_42
        refine lp_rel (F := fun q : Int32 × px_M => F_8004_42 tT (f_8004 tT d) P (nI used) (nI k) (nI depth) (nI h) (nI (nd left (2 ^ h))) q.1 q.2) (fun j q => q.1 = nI j ∧ fr (on (P + 1)) σ q.2 ∧ (∀ c, c < 11 → q.2.1 (P + 1) c = nI (W c)) ∧ ∀ e, e < j → e ≤ used → e < k → W e &&& B h = 0 → ¬ PE B n (nd left (2 ^ h)) k (wU W e h)) (fun b => ∃ b' υ, b = (mb b', υ) ∧ fr (on (P + 1)) σ υ ∧ (∀ c, c < 11 → υ.1 (P + 1) c = nI (W c)) ∧ (b' = true ↔ PE B n left k W)) 12 (fun j q hj hI => ?_) 0 (nI 0, σ) (by omega) ⟨rfl, fr_rf _ _, p6, fun e he => absurd he (by omega)⟩
        obtain ⟨x, ρ⟩ := q
        obtain ⟨hx, g1, g2, g3⟩ := hI
        dsimp only at hx g1 g2 g3
        subst hx
        have hpr := pt_on hd1 hd2 hDP g1 hp g2 p7
        obtain ⟨r1, r2, r3, r4, ⟨s1, s2, sr, -, sn, snb⟩, r6, r7⟩ := id hpr
        have hfin : (used < j ∨ k ≤ j) → ∃ b' υ, (nI 0, ρ) = (mb b', υ) ∧ fr (on (P + 1)) σ υ ∧ (∀ c, c < 11 → υ.1 (P + 1) c = nI (W c)) ∧ (b' = true ↔ PE B n left k W) := fun hq => by
          refine ⟨false, ρ, rfl, g1, g2, fun q => absurd q (by simp), fun q => ?_⟩
          obtain ⟨c, c1, c2, c3, c4⟩ := (PE_step hw hl hh (fun c hc _ => hW c hc)).mp q
          exact absurd c4 (g3 c (by omega) c1 c2 c3)
        by_cases hju : used < j
        · right
          refine ⟨(nI 0, ρ), ?_, hfin (Or.inl hju)⟩
          simp (disch := omega) only [F_8004_42, gd_tt, oA_arr, px_obj_s, Option.bind_some, Option.map_some, Option.bind_none, eq_self, true_or, or_true, px_av_0, px_av_1, px_av_2, px_av_10, px_av_11, bn, wi_1, wi_2, wl_1, wl_21, wl_22, wr_1, wr_21, wr_22, Sum.elim_inl, Sum.elim_inr, ↓reduceIte, Nat.reduceLT, Nat.reduceLeDiff, not_false_eq_true, not_true_eq_false, Nat.reduceEqDiff, Nat.reduceAdd, reduceCtorEq, and_true, true_and, and_false, false_and, false_or, or_false, true_and, and_true, ni_divL, ni_subL, nI_add, pk_mul, nI_leI, nI_ltI, nI_eq, vp_in_eq, nI_clamp, ↓ni_tst, ni_tst2, fa_and, fa_or, ni_bit1, ni_1s, nI_l, mb_eq0, mb_ne0, mb_eq1, gd_tt, gd_t, bft]
          rw [if_pos hju]
        · by_cases hjk : k ≤ j
          · right
            refine ⟨(nI 0, ρ), ?_, hfin (Or.inr hjk)⟩
            simp (disch := omega) only [F_8004_42, gd_tt, oA_arr, px_obj_s, Option.bind_some, Option.map_some, Option.bind_none, eq_self, true_or, or_true, px_av_0, px_av_1, px_av_2, px_av_10, px_av_11, bn, wi_1, wi_2, wl_1, wl_21, wl_22, wr_1, wr_21, wr_22, Sum.elim_inl, Sum.elim_inr, ↓reduceIte, Nat.reduceLT, Nat.reduceLeDiff, not_false_eq_true, not_true_eq_false, Nat.reduceEqDiff, Nat.reduceAdd, reduceCtorEq, and_true, true_and, and_false, false_and, false_or, or_false, true_and, and_true, ni_divL, ni_subL, nI_add, pk_mul, nI_leI, nI_ltI, nI_eq, vp_in_eq, nI_clamp, ↓ni_tst, ni_tst2, fa_and, fa_or, ni_bit1, ni_1s, nI_l, mb_eq0, mb_ne0, mb_eq1, gd_tt, gd_t, bft]
            rw [if_neg hju, if_pos hjk]
          · have hA : W j &&& B h < 2048 := and_lt (p7 j)
            by_cases hz : W j &&& B h = 0
            · have hwh : (W j).testBit h = false := by
                cases hb : (W j).testBit h with
                | false => rfl
                | true => exact absurd ⟨hb, hh⟩ (and_0iff.mp (hWl j) h)
              have hWU : ∀ c, wU W j h c < 2048 := fun c => by
                unfold wU
                split
                · exact or_lt (p7 j) (pw_lt (by omega))
                · exact p7 c
              have hf1 : fr (on (P + 1)) σ (px_wi ρ (P + 1) j (nI (W j ||| 2 ^ h))) := fr_wi g1 _ (on_t _ _)
              have hrow1 : ∀ c, c < 11 → (px_wi ρ (P + 1) j (nI (W j ||| 2 ^ h))).1 (P + 1) c = nI (wU W j h c) := fun c hc => by
                show px_up ρ.1 (P + 1) j _ (P + 1) c = _
                rw [up_s]
                unfold wU
                by_cases hcj : c = j
                · rw [if_pos hcj, if_pos hcj]
                · rw [if_neg hcj, if_neg hcj]; exact g2 c hc
              have hite : (if used < j + 1 then nI (j + 1) else nI used) = nI (if used < j + 1 then j + 1 else used) := by split <;> rfl
              obtain ⟨b', υ, q1, q2, q3, q4⟩ := ih (nd left (2 ^ h)) (if used < j + 1 then j + 1 else used) d (depth + 1) (px_wi ρ (P + 1) j (nI (W j ||| 2 ^ h))) (wU W j h) hrest (by omega) (by omega) (pt_on hd1 hd2 hDP hf1 hp hrow1 hWU) hrl (by split <;> omega) (fun c hc => by
                unfold wU
                rw [if_neg (by split at hc <;> omega)]
                exact hW c (by split at hc <;> omega)) (fun c => by
                rw [and_0iff]
                rintro i ⟨i1, i2⟩
                rw [nd_tb (by omega), Bool.and_eq_true, Nat.testBit_two_pow, Bool.not_eq_true', decide_eq_false_iff_not] at i2
                unfold wU at i1
                split at i1
                · rw [Nat.testBit_or, Bool.or_eq_true, Nat.testBit_two_pow, decide_eq_true_eq] at i1
                  rcases i1 with i1 | i1
                  · exact and_0iff.mp (hWl j) i ⟨i1, i2.1⟩
                  · exact i2.2 i1
                · exact and_0iff.mp (hWl c) i ⟨i1, i2.1⟩)
              have hback : nd (W j ||| 2 ^ h) (2 ^ h) = W j := by
                apply Nat.eq_of_testBit_eq
                intro i
                rw [nd_tb (or_lt (p7 j) (pw_lt (by omega))), Nat.testBit_or, Nat.testBit_two_pow]
                by_cases hih : h = i
                · subst hih; simp [hwh]
                · simp [hih]
              have hvj : υ.1 (P + 1) j = nI (W j ||| 2 ^ h) := by
                rw [q3 j (by omega)]
                unfold wU
                rw [if_pos rfl]
              have hur : υ.2.2 P 0 = some (P + 1) := by
                rw [q2.2.2 P 0 (Or.inl (by simp [on]))]
                exact r3
              have hol : W j ||| 2 ^ h < 2048 := or_lt (p7 j) (pw_lt (by omega))
              have hf2 : fr (on (P + 1)) σ (px_wi υ (P + 1) j (nI (W j))) := fr_wi (fr_tr hf1 q2) _ (on_t _ _)
              have hrow2 : ∀ c, c < 11 → (px_wi υ (P + 1) j (nI (W j))).1 (P + 1) c = nI (W c) := fun c hc => by
                show px_up υ.1 (P + 1) j _ (P + 1) c = _
                rw [up_s]
                by_cases hcj : c = j
                · rw [if_pos hcj, hcj]
                · rw [if_neg hcj, q3 c hc]
                  unfold wU
                  rw [if_neg hcj]
              have hF : F_8004_42 tT (f_8004 tT d) P (nI used) (nI k) (nI depth) (nI h) (nI (nd left (2 ^ h))) (nI j) ρ = if b' = true then some (.inr (nI 1, px_wi υ (P + 1) j (nI (W j)))) else some (.inl (nI (j + 1), px_wi υ (P + 1) j (nI (W j)))) := by
                simp (disch := omega) only [F_8004_42, f_8004_92, f_8004_129, f_8004_136, p1, p2, r3, r4, s1, s2, sr, gd_tt, oA_arr, px_obj_s, Option.bind_some, Option.map_some, Option.bind_none, eq_self, true_or, or_true, px_av_0, px_av_1, px_av_2, px_av_10, px_av_11, bn, wi_1, wi_2, wl_1, wl_21, wl_22, wr_1, wr_21, wr_22, Sum.elim_inl, Sum.elim_inr, ↓reduceIte, Nat.reduceLT, Nat.reduceLeDiff, not_false_eq_true, not_true_eq_false, Nat.reduceEqDiff, Nat.reduceAdd, reduceCtorEq, and_true, true_and, and_false, false_and, false_or, or_false, true_and, and_true, ni_divL, ni_subL, nI_add, pk_mul, nI_leI, nI_ltI, nI_eq, vp_in_eq, nI_clamp, ↓ni_tst, ni_tst2, fa_and, fa_or, ni_bit1, ni_1s, nI_l, mb_eq0, mb_ne0, mb_eq1, gd_tt, gd_t, bft, g2, snb, hite]
                rw [if_neg hju, if_neg hjk, if_pos hz]
                simp (disch := omega) only [q1, hur, p2, gd_tt, oA_arr, px_obj_s, Option.bind_some, Option.map_some, Option.bind_none, eq_self, true_or, or_true, px_av_0, px_av_1, px_av_2, px_av_10, px_av_11, bn, wi_1, wi_2, wl_1, wl_21, wl_22, wr_1, wr_21, wr_22, Sum.elim_inl, Sum.elim_inr, ↓reduceIte, Nat.reduceLT, Nat.reduceLeDiff, not_false_eq_true, not_true_eq_false, Nat.reduceEqDiff, Nat.reduceAdd, reduceCtorEq, and_true, true_and, and_false, false_and, false_or, or_false, true_and, and_true, ni_divL, ni_subL, nI_add, pk_mul, nI_leI, nI_ltI, nI_eq, vp_in_eq, nI_clamp, ↓ni_tst, ni_tst2, fa_and, fa_or, ni_bit1, ni_1s, nI_l, mb_eq0, mb_ne0, mb_eq1, gd_tt, gd_t, bft, hvj, ni_nd, hback]
                cases b' <;> simp
              cases b' with
              | true =>
                right
                refine ⟨(nI 1, px_wi υ (P + 1) j (nI (W j))), by rw [hF, if_pos rfl], true, _, rfl, hf2, hrow2, fun _ => ?_, fun _ => rfl⟩
                exact (PE_step hw hl hh (fun c hc _ => hW c hc)).mpr ⟨j, by omega, by omega, hz, q4.mp rfl⟩
              | false =>
                left
                refine ⟨(nI (j + 1), px_wi υ (P + 1) j (nI (W j))), by rw [hF, if_neg (by simp)], by omega, rfl, hf2, hrow2, fun e he he1 he2 he3 => ?_⟩
                by_cases hej : e = j
                · subst hej
                  intro q
                  have := q4.mpr q
                  cases this
                · exact g3 e (by omega) he1 he2 he3
            · left
              refine ⟨(nI (j + 1), ρ), ?_, by omega, rfl, g1, g2, fun e he he1 he2 he3 => ?_⟩
              · simp (disch := omega) only [F_8004_42, f_8004_136, p1, p2, r3, r4, s1, s2, sr, gd_tt, oA_arr, px_obj_s, Option.bind_some, Option.map_some, Option.bind_none, eq_self, true_or, or_true, px_av_0, px_av_1, px_av_2, px_av_10, px_av_11, bn, wi_1, wi_2, wl_1, wl_21, wl_22, wr_1, wr_21, wr_22, Sum.elim_inl, Sum.elim_inr, ↓reduceIte, Nat.reduceLT, Nat.reduceLeDiff, not_false_eq_true, not_true_eq_false, Nat.reduceEqDiff, Nat.reduceAdd, reduceCtorEq, and_true, true_and, and_false, false_and, false_or, or_false, true_and, and_true, ni_divL, ni_subL, nI_add, pk_mul, nI_leI, nI_ltI, nI_eq, vp_in_eq, nI_clamp, ↓ni_tst, ni_tst2, fa_and, fa_or, ni_bit1, ni_1s, nI_l, mb_eq0, mb_ne0, mb_eq1, gd_tt, gd_t, bft, g2, snb]
                rw [if_neg hju, if_neg hjk, if_neg hz]
              · by_cases hej : e = j
                · subst hej; exact absurd he3 hz
                · exact g3 e (by omega) he1 he2 he3
      obtain ⟨b, q1, b', υ, rfl, q2, q3, q4⟩ := loop
      refine ⟨b', υ, ?_, q2, q3, q4⟩
      have hm1 := nI_m1 (b := h) (by omega)
      rw [f_8004_S]
      simp (disch := omega) only [F_8004, f_8004_39, p1, hmb, gd_tt, oA_arr, px_obj_s, Option.bind_some, Option.map_some, Option.bind_none, eq_self, true_or, or_true, px_av_0, px_av_1, px_av_2, px_av_10, px_av_11, bn, wi_1, wi_2, wl_1, wl_21, wl_22, wr_1, wr_21, wr_22, Sum.elim_inl, Sum.elim_inr, ↓reduceIte, Nat.reduceLT, Nat.reduceLeDiff, not_false_eq_true, not_true_eq_false, Nat.reduceEqDiff, Nat.reduceAdd, reduceCtorEq, and_true, true_and, and_false, false_and, false_or, or_false, true_and, and_true, ni_divL, ni_subL, nI_add, pk_mul, nI_leI, nI_ltI, nI_eq, vp_in_eq, nI_clamp, ↓ni_tst, ni_tst2, fa_and, fa_or, ni_bit1, ni_1s, nI_l, mb_eq0, mb_ne0, mb_eq1, gd_tt, gd_t, bft, hl0, hm1, ni_nd]
      rw [if_pos (by omega), q1]
end
