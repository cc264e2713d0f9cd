/-! deeds undone -/
section
variable {σ τ : px_M} {A n : Nat} {B : Nat → Nat}
def tb2 (A l j : Nat) : Bool := hsC A l j || tw2 (A + 1) l j
theorem tb2_A {A j : Nat} (h : j = 3 ∨ j = 4) : tb2 A A j = true := by rcases h with rfl | rfl <;> simp [tb2, hsC]
theorem tb2_1 (A j : Nat) : tb2 A (A + 1) j = true := by simp [tb2, tw2]
theorem tb2_2 (A j : Nat) : tb2 A (A + 1 + 1) j = true := by simp [tb2, tw2]
theorem tb2_7 (A j : Nat) : tb2 A (A + 7) j = true := by simp [tb2, hsC]
/-- one deed taken back -/
theorem c_back1 (hA : al σ A) (hD : ∀ j, DR A j = false) (hl1 : px_lay tT (A + 1) = some (.inl 11)) (hl2 : px_lay tT (A + 1 + 1) = some (.inr (0, 11))) (hr1 : σ.2.2 (A + 1) 1 = some (A + 1 + 1)) (hD1 : ∀ j, DR (A + 1) j = false) {d : Nat} {G : Nat → Nat → Int32} (hG : ch σ A d G) (hd : 0 < d) (hw : wf n B) (hrow : ∀ j, j < 12 → G 0 j = trow n B j) (m i : Int32) : ∃ υ, f_1005_22 tT σ A m i (σ.1 A 4 * nI 12) = some (.inl (i + nI 1, υ)) ∧ fr (tb2 A) σ υ ∧ ch υ A (d - 1) (fun i => G (i + 1)) ∧ ct υ (A + 1) n B := by
  obtain ⟨h1, h2, L, hL, h3, h4⟩ := hG
  have hn := hw.1
  obtain ⟨s1, s2⟩ := h4 0 hd
  have hq0 : (L + 12 - 0) % 12 = L := by omega
  rw [hq0] at s1 s2
  rw [hrow 0 (by omega), trow_0] at s2
  have s1' : ∀ h, h < 11 → σ.1 (A + 7) (L * 12 + h) = nI (B h) := fun h hh => by rw [s1 h hh, hrow (1 + h) (by omega), trow_S]
  rw [h3, pk_mul]
  unfold f_1005_22 f_1005_25
  obtain ⟨b, hb, υ, rfl, r1, r2, r3⟩ := lp_for (F := fun q : Int32 × px_M => F_1005_25 tT A m i (nI (L * 12)) q.1 q.2) (fun j q => q.1 = nI j ∧ fr (tb2 A) σ q.2 ∧ q.2.1 A 3 = nI d ∧ q.2.1 A 4 = nI L ∧ (∀ k, q.2.1 (A + 7) k = σ.1 (A + 7) k) ∧ ∀ k, k < j → q.2.1 (A + 1 + 1) k = nI (B k)) (fun b => ∃ υ, b = .inl (i + nI 1, υ) ∧ fr (tb2 A) σ υ ∧ ch υ A (d - 1) (fun i => G (i + 1)) ∧ ct υ (A + 1) n B) 11 (fun j q hj hI => by
    obtain ⟨x, υ⟩ := q
    obtain ⟨hx, k1, k2, k3, k4, k5⟩ := hI
    dsimp only at hx k1 k2 k3 k4 k5
    subst hx
    obtain ⟨a1, a2, a3, a4⟩ := al_fr k1 hD hA
    have hr2 : υ.2.2 (A + 1) 1 = some (A + 1 + 1) := by rw [k1.2.2 (A + 1) 1 (Or.inr (hD1 1))]; exact hr1
    have hv : υ.1 (A + 7) (L * 12 + j) = nI (B j) := by rw [k4]; exact s1' j hj
    refine ⟨(nI (j + 1), px_wi υ (A + 1 + 1) j (nI (B j))), ?_, rfl, fr_wi k1 _ (tb2_2 A _), ?_, ?_, fun k => ?_, fun k hk => ?_⟩
    · simp (disch := omega) only [F_1005_25, a1, a2, a3, a4, hl1, hl2, hr2, gd_tt, oA_arr, px_obj_s, Option.bind_some, Option.map_some, Option.bind_none, eq_self, true_or, or_true, px_av_0, px_av_1, px_av_2, px_av_10, px_av_11, bn, wi_1, wi_2, wl_1, wl_21, wl_22, wr_1, wr_21, wr_22, Sum.elim_inl, Sum.elim_inr, ↓reduceIte, Nat.reduceLT, Nat.reduceLeDiff, not_false_eq_true, not_true_eq_false, Nat.reduceEqDiff, Nat.reduceAdd, reduceCtorEq, and_true, true_and, and_false, false_and, false_or, or_false, true_and, and_true, ni_divL, ni_subL, nI_add, pk_mul, nI_leI, nI_ltI, nI_eq, vp_in_eq, nI_clamp, ↓ni_tst, ni_tst2, fa_and, fa_or, ni_bit1, ni_1s, nI_l, mb_eq0, mb_ne0, mb_eq1, gd_tt, gd_t, bft, hv]
      rw [if_neg (by omega)]
    · show px_up υ.1 (A + 1 + 1) _ _ A 3 = _
      rw [px_up_row (by omega)]; exact k2
    · show px_up υ.1 (A + 1 + 1) _ _ A 4 = _
      rw [px_up_row (by omega)]; exact k3
    · show px_up υ.1 (A + 1 + 1) _ _ (A + 7) k = _
      rw [px_up_row (by omega)]; exact k4 k
    · show px_up υ.1 (A + 1 + 1) j _ (A + 1 + 1) k = _
      rw [up_s]
      by_cases hkj : k = j
      · subst hkj; rw [if_pos rfl]
      · rw [if_neg hkj]; exact k5 k (by omega)) (fun q hI => by
    obtain ⟨x, υ⟩ := q
    obtain ⟨hx, k1, k2, k3, k4, k5⟩ := hI
    dsimp only at hx k1 k2 k3 k4 k5
    subst hx
    obtain ⟨a1, a2, a3, a4⟩ := al_fr k1 hD hA
    have hr2 : υ.2.2 (A + 1) 1 = some (A + 1 + 1) := by rw [k1.2.2 (A + 1) 1 (Or.inr (hD1 1))]; exact hr1
    have hv : υ.1 (A + 7) (L * 12 + 11) = nI n := by rw [k4]; exact s2
    have hAA : A ≠ A + 1 := by omega
    have fin : ∀ L', L' < 12 → L' = (L + 11) % 12 → ∃ b : (Int32 × px_M) ⊕ px_M, f_1005_95 tT (px_wi (px_wi υ (A + 1) 0 (nI n)) A 4 (nI L')) A m i = some b ∧ ∃ ρ, b = .inl (i + nI 1, ρ) ∧ fr (tb2 A) σ ρ ∧ ch ρ A (d - 1) (fun i => G (i + 1)) ∧ ct ρ (A + 1) n B := by
      intro L' hL' hLe
      have h30 : (px_wi (px_wi υ (A + 1) 0 (nI n)) A 4 (nI L')).1 A 3 = nI d := by
        show px_up (px_up υ.1 (A + 1) 0 _) A 4 _ A 3 = _
        rw [up_s, if_neg (by omega), px_up_row (by omega)]; exact k2
      refine ⟨.inl (i + nI 1, px_wi (px_wi (px_wi υ (A + 1) 0 (nI n)) A 4 (nI L')) A 3 (nI (d - 1))), ?_, _, rfl, fr_wi (fr_wi (fr_wi k1 _ (tb2_1 A _)) _ (tb2_A (Or.inr rfl))) _ (tb2_A (Or.inl rfl)), ?_, ?_⟩
      · simp only [f_1005_95, a1, gd_tt, oA_arr, px_obj_s, Option.bind_some, Option.map_some, Option.bind_none, eq_self, true_or, or_true, px_av_0, px_av_1, px_av_2, px_av_10, px_av_11, bn, wi_1, wi_2, wl_1, wl_21, wl_22, wr_1, wr_21, wr_22, Sum.elim_inl, Sum.elim_inr, ↓reduceIte, Nat.reduceLT, Nat.reduceLeDiff, not_false_eq_true, not_true_eq_false, Nat.reduceEqDiff, Nat.reduceAdd, reduceCtorEq, and_true, true_and, and_false, false_and, false_or, or_false, px_up_row hAA]
        rw [show px_up (px_up υ.1 (A + 1) 0 (nI n)) A 4 (nI L') A 3 = nI d from h30, ni_subL (by omega)]
      · refine ⟨by omega, wi_s _ _ _ _, L', hL', ?_, fun a ha => ?_⟩
        · show px_up (px_up (px_up υ.1 (A + 1) 0 _) A 4 _) A 3 _ A 4 = _
          rw [up_s, if_neg (by omega)]; exact px_up_s _ _ _ _
        · have hrd : ∀ k, (px_wi (px_wi (px_wi υ (A + 1) 0 (nI n)) A 4 (nI L')) A 3 (nI (d - 1))).1 (A + 7) k = σ.1 (A + 7) k := by
            intro k
            show px_up (px_up (px_up υ.1 (A + 1) 0 _) A 4 _) A 3 _ (A + 7) k = _
            rw [px_up_row (by omega), px_up_row (by omega), px_up_row (by omega)]; exact k4 k
          simp only [hrd]
          rw [show (L' + 12 - a) % 12 = (L + 12 - (a + 1)) % 12 by omega]
          exact h4 (a + 1) (by omega)
      · refine ⟨hl1, hl2, hr2, hw, ?_, fun h hh => ?_⟩
        · show px_up (px_up (px_up υ.1 (A + 1) 0 _) A 4 _) A 3 _ (A + 1) 0 = _
          rw [px_up_row (by omega), px_up_row (by omega)]; exact px_up_s _ _ _ _
        · show px_up (px_up (px_up υ.1 (A + 1) 0 _) A 4 _) A 3 _ (A + 1 + 1) h = _
          rw [px_up_row (by omega), px_up_row (by omega), px_up_row (by omega)]; exact k5 h hh
    by_cases hL0 : L = 0
    · subst hL0
      obtain ⟨b, q1, ρ, rfl, q2, q3, q4⟩ := fin 11 (by omega) rfl
      refine ⟨.inl (i + nI 1, ρ), ?_, ρ, rfl, q2, q3, q4⟩
      have h50 : px_up υ.1 (A + 1) 0 (nI n) A 4 = nI 0 := by rw [px_up_row (by omega)]; exact k3
      simp only [F_1005_25, a1, a2, a3, a4, hl1, gd_tt, oA_arr, px_obj_s, Option.bind_some, Option.map_some, Option.bind_none, eq_self, true_or, or_true, px_av_0, px_av_1, px_av_2, px_av_10, px_av_11, bn, wi_1, wi_2, wl_1, wl_21, wl_22, wr_1, wr_21, wr_22, Sum.elim_inl, Sum.elim_inr, ↓reduceIte, Nat.reduceLT, Nat.reduceLeDiff, not_false_eq_true, not_true_eq_false, Nat.reduceEqDiff, Nat.reduceAdd, reduceCtorEq, and_true, true_and, and_false, false_and, false_or, or_false]
      rw [if_pos (by decide), nI_add, nI_clamp (by omega), gd_t (by rw [vp_in_eq (by omega)]; omega)]
      simp only [hv, h50, show nI 0 ≤ nI 0 from by decide, ↓reduceIte, q1, Option.map_some]
    · obtain ⟨b, q1, ρ, rfl, q2, q3, q4⟩ := fin (L - 1) (by omega) (by omega)
      refine ⟨.inl (i + nI 1, ρ), ?_, ρ, rfl, q2, q3, q4⟩
      have h50 : px_up υ.1 (A + 1) 0 (nI n) A 4 = nI L := by rw [px_up_row (by omega)]; exact k3
      simp only [F_1005_25, a1, a2, a3, a4, hl1, gd_tt, oA_arr, px_obj_s, Option.bind_some, Option.map_some, Option.bind_none, eq_self, true_or, or_true, px_av_0, px_av_1, px_av_2, px_av_10, px_av_11, bn, wi_1, wi_2, wl_1, wl_21, wl_22, wr_1, wr_21, wr_22, Sum.elim_inl, Sum.elim_inr, ↓reduceIte, Nat.reduceLT, Nat.reduceLeDiff, not_false_eq_true, not_true_eq_false, Nat.reduceEqDiff, Nat.reduceAdd, reduceCtorEq, and_true, true_and, and_false, false_and, false_or, or_false]
      rw [if_pos (by decide), nI_add, nI_clamp (by omega), gd_t (by rw [vp_in_eq (by omega)]; omega)]
      have hgt : ¬ nI L ≤ nI 0 := by rw [nI_leI (by omega) (by omega)]; omega
      simp only [hv, h50, hgt, ↓reduceIte, ni_subL (show 1 ≤ L by omega), q1, Option.map_some]) 0 (nI 0, σ) (by omega) ⟨rfl, fr_rf _ _, h2, h3, fun _ => rfl, fun k hk => absurd hk (by omega)⟩
  exact ⟨υ, hb, r1, r2, r3⟩
theorem c_takeBack (hA : al σ A) (hD : ∀ j, DR A j = false) (hD1 : ∀ j, DR (A + 1) j = false) (hc : ct σ (A + 1) n B) {d : Nat} {G : Nat → Nat → Int32} (hG : ch σ A d G) (hgw : gw d G) {m : Nat} (hm : m ≤ d) : ∃ υ, f_1005 tT σ A (nI m) = some υ ∧ fr (tb2 A) σ υ ∧ ch υ A (d - m) (fun i => G (i + m)) ∧ ∃ n' B', ct υ (A + 1) n' B' ∧ ∀ j, j < 12 → trow n' B' j = if m = 0 then trow n B j else G (m - 1) j := by
  have hd12 := hG.1
  obtain ⟨l1, l2, hr, -⟩ := id hc
  unfold f_1005 f_1005_2
  obtain ⟨b, hb, h1, h2, h3⟩ := lp_for (F := fun q : Int32 × px_M => F_1005_2 tT A (nI m) q.1 q.2) (fun j q => q.1 = nI j ∧ fr (tb2 A) σ q.2 ∧ ch q.2 A (d - j) (fun i => G (i + j)) ∧ ∃ n' B', ct q.2 (A + 1) n' B' ∧ ∀ x, x < 12 → trow n' B' x = if j = 0 then trow n B x else G (j - 1) x) (fun b => fr (tb2 A) σ b ∧ ch b A (d - m) (fun i => G (i + m)) ∧ ∃ n' B', ct b (A + 1) n' B' ∧ ∀ j, j < 12 → trow n' B' j = if m = 0 then trow n B j else G (m - 1) j) m (fun j q hj hI => by
    obtain ⟨x, υ⟩ := q
    obtain ⟨hx, k1, k2, k3⟩ := hI
    dsimp only at hx k1 k2 k3
    subst hx
    have ha := al_fr k1 hD hA
    have hr2 : υ.2.2 (A + 1) 1 = some (A + 1 + 1) := by rw [k1.2.2 (A + 1) 1 (Or.inr (hD1 1))]; exact hr
    obtain ⟨n', B', w1, w2⟩ := hgw j (by omega)
    obtain ⟨ρ, q1, q2, q3, q4⟩ := c_back1 (n := n') (B := B') ha hD l1 l2 hr2 hD1 k2 (by omega) w1 (fun y hy => by rw [Nat.zero_add]; exact w2 y hy) (nI m) (nI j)
    refine ⟨(nI (j + 1), ρ), ?_, rfl, fr_tr k1 q2, ?_, n', B', q4, fun y hy => ?_⟩
    · have h31 := k2.2.1
      simp only [F_1005_2, ha.1, gd_tt, oA_arr, px_obj_s, Option.bind_some, Option.map_some, Option.bind_none, eq_self, true_or, or_true, px_av_0, px_av_1, px_av_2, px_av_10, px_av_11, bn, wi_1, wi_2, wl_1, wl_21, wl_22, wr_1, wr_21, wr_22, Sum.elim_inl, Sum.elim_inr, ↓reduceIte, Nat.reduceLT, Nat.reduceLeDiff, not_false_eq_true, not_true_eq_false, Nat.reduceEqDiff, Nat.reduceAdd, reduceCtorEq, and_true, true_and, and_false, false_and, false_or, or_false, h31]
      rw [if_neg (by rw [nI_leI (by omega) (by omega)]; omega), if_neg (by rw [nI_leI (by omega) (by omega)]; omega), q1, nI_add]
    · rw [show d - (j + 1) = d - j - 1 by omega]
      have : (fun i => G (i + (j + 1))) = fun i => G (i + 1 + j) := funext fun i => by rw [show i + (j + 1) = i + 1 + j by omega]
      rw [this]; exact q3
    · rw [if_neg (by omega), Nat.add_sub_cancel]; exact (w2 y hy).symm) (fun q hI => by
    obtain ⟨x, υ⟩ := q
    obtain ⟨hx, k1, k2, k3⟩ := hI
    dsimp only at hx k1 k2 k3
    subst hx
    refine ⟨υ, ?_, k1, k2, k3⟩
    simp only [F_1005_2]
    rw [if_pos (by rw [nI_leI (by omega) (by omega)]; exact Nat.le_refl _)]) 0 (nI 0, σ) (by omega) ⟨rfl, fr_rf _ _, by simpa using hG, n, B, hc, fun x _ => by simp⟩
  exact ⟨b, hb, h1, h2, h3⟩
/-- the model's undo -/
def uS (l j : Nat) : Bool := tn l j || hs l j
theorem e_undo (hR : mR σ.2.2) {d : Nat} {G : Nat → Nat → Int32} (hG : mh σ 0 d G) {m : Nat} (hm : m ≤ d) (hm1 : 1 ≤ m) : ∃ υ, f_71_44 tT 0 (nI 0) (px_wi σ 1 13 (nI (d - m))) = some (nI (d - m), υ) ∧ fr uS σ υ ∧ mh υ 0 (d - m) (fun i => G (i + m)) ∧ ∀ j, j < 12 → υ.1 1 (1 + j) = G (m - 1) j := by
  obtain ⟨h1, h2, h3⟩ := hG
  unfold f_71_44
  obtain ⟨b, hb, υ, rfl, q2, q3, q4⟩ := lp_for (F := fun q : Int32 × px_M => F_71_44 tT 0 q.1 q.2) (fun j q => q.1 = nI j ∧ fr uS σ q.2 ∧ q.2.1 1 13 = nI (d - m) ∧ (∀ k, 14 ≤ k → q.2.1 1 k = σ.1 1 k) ∧ ∀ k, k < j → q.2.1 1 (1 + k) = G (m - 1) k) (fun b => ∃ υ, b = (nI (d - m), υ) ∧ fr uS σ υ ∧ mh υ 0 (d - m) (fun i => G (i + m)) ∧ ∀ j, j < 12 → υ.1 1 (1 + j) = G (m - 1) j) 12 (fun j q hj hI => by
    obtain ⟨x, υ⟩ := q
    obtain ⟨hx, k1, k2, k3, k4⟩ := hI
    dsimp only at hx k1 k2 k3 k4
    subst hx
    have hR := mR_fr k1 hR
    have hv : υ.1 1 (14 + 12 * (d - m) + j) = G (m - 1) j := by
      rw [k3 _ (by omega), ← h3 (m - 1) (by omega) j hj, show 0 + 14 + 12 * (d - 1 - (m - 1)) + j = 14 + 12 * (d - m) + j by omega]
    refine ⟨(nI (j + 1), px_wi υ 1 (1 + j) (G (m - 1) j)), ?_, rfl, fr_wi k1 _ (by simp [uS, tn, show 1 + j ≤ 12 by omega]), ?_, fun k hk => ?_, fun k hk => ?_⟩
    · simp (disch := omega) only [F_71_44, la_0, la_1, la_2, la_3, la_4, la_15, la_16, la_17, la_18, la_19, la_20, la_23, la_24, la_25, la_26, la_27, la_28, la_31, la_35, la_36, la_37, rm_0_1 hR, rm_0_2 hR, rm_0_3 hR, rm_0_4 hR, rm_0_15 hR, rm_0_16 hR, rm_0_17 hR, rm_0_18 hR, rm_0_19 hR, rm_0_20 hR, rm_0_23 hR, rm_0_24 hR, rm_0_25 hR, rm_0_26 hR, rm_0_27 hR, rm_0_28 hR, rm_0_31 hR, rm_0_35 hR, rm_0_36 hR, rm_0_37 hR, gd_tt, oA_arr, px_obj_s, Option.bind_some, Option.map_some, Option.bind_none, eq_self, true_or, or_true, px_av_0, px_av_1, px_av_2, px_av_10, px_av_11, bn, wi_1, wi_2, wl_1, wl_21, wl_22, wr_1, wr_21, wr_22, Sum.elim_inl, Sum.elim_inr, ↓reduceIte, Nat.reduceLT, Nat.reduceLeDiff, not_false_eq_true, not_true_eq_false, Nat.reduceEqDiff, Nat.reduceAdd, reduceCtorEq, and_true, true_and, and_false, false_and, false_or, or_false, true_and, and_true, ni_divL, ni_subL, nI_add, pk_mul, nI_leI, nI_ltI, nI_eq, vp_in_eq, nI_clamp, ↓ni_tst, ni_tst2, fa_and, fa_or, ni_bit1, ni_1s, nI_l, mb_eq0, mb_ne0, mb_eq1, gd_tt, gd_t, bft, k2, hv]
      rw [if_neg (by omega)]
    · show px_up υ.1 1 (1 + j) _ 1 13 = _
      rw [up_s, if_neg (by omega)]; exact k2
    · show px_up υ.1 1 (1 + j) _ 1 k = _
      rw [up_s, if_neg (by omega)]; exact k3 k hk
    · show px_up υ.1 1 (1 + j) _ 1 (1 + k) = _
      rw [up_s]
      by_cases hkj : k = j
      · subst hkj; rw [if_pos rfl]
      · rw [if_neg (by omega)]; exact k4 k (by omega)) (fun q hI => by
    obtain ⟨x, υ⟩ := q
    obtain ⟨hx, k1, k2, k3, k4⟩ := hI
    dsimp only at hx k1 k2 k3 k4
    subst hx
    have hR := mR_fr k1 hR
    refine ⟨(nI (d - m), υ), ?_, υ, rfl, k1, ⟨by omega, by rw [Nat.zero_add]; exact k2, fun i hi k hk => ?_⟩, k4⟩
    · simp (disch := omega) only [F_71_44, la_0, la_1, la_2, la_3, la_4, la_15, la_16, la_17, la_18, la_19, la_20, la_23, la_24, la_25, la_26, la_27, la_28, la_31, la_35, la_36, la_37, rm_0_1 hR, rm_0_2 hR, rm_0_3 hR, rm_0_4 hR, rm_0_15 hR, rm_0_16 hR, rm_0_17 hR, rm_0_18 hR, rm_0_19 hR, rm_0_20 hR, rm_0_23 hR, rm_0_24 hR, rm_0_25 hR, rm_0_26 hR, rm_0_27 hR, rm_0_28 hR, rm_0_31 hR, rm_0_35 hR, rm_0_36 hR, rm_0_37 hR, gd_tt, oA_arr, px_obj_s, Option.bind_some, Option.map_some, Option.bind_none, eq_self, true_or, or_true, px_av_0, px_av_1, px_av_2, px_av_10, px_av_11, bn, wi_1, wi_2, wl_1, wl_21, wl_22, wr_1, wr_21, wr_22, Sum.elim_inl, Sum.elim_inr, ↓reduceIte, Nat.reduceLT, Nat.reduceLeDiff, not_false_eq_true, not_true_eq_false, Nat.reduceEqDiff, Nat.reduceAdd, reduceCtorEq, and_true, true_and, and_false, false_and, false_or, or_false, true_and, and_true, ni_divL, ni_subL, nI_add, pk_mul, nI_leI, nI_ltI, nI_eq, vp_in_eq, nI_clamp, ↓ni_tst, ni_tst2, fa_and, fa_or, ni_bit1, ni_1s, nI_l, mb_eq0, mb_ne0, mb_eq1, gd_tt, gd_t, bft, k2]
    · show _ = G (i + m) k
      rw [k3 _ (by omega), ← h3 (i + m) (by omega) k hk, show 0 + 14 + 12 * (d - 1 - (i + m)) + k = 0 + 14 + 12 * (d - m - 1 - i) + k by omega]) 0 (nI 0, px_wi σ 1 13 (nI (d - m))) (by omega) ⟨rfl, fr_wi (fr_rf _ _) _ (by simp [uS, hs]), wi_s _ _ _ _, fun k hk => by
      show px_up σ.1 1 13 _ 1 k = _
      rw [up_s, if_neg (by omega)], fun k hk => absurd hk (by omega)⟩
  exact ⟨υ, hb, q2, q3, q4⟩
end
