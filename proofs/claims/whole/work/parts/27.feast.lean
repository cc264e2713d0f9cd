/-! feasts -/
section
variable {σ τ : px_M} {t f n : Nat} {B : Nat → Nat}
/-- the class's table of neighbours of sets -/
def ft (σ : px_M) (f n : Nat) (B : Nat → Nat) : Prop := px_lay tT f = some (.inl 3) ∧ px_lay tT (f + 1) = some (.inr (0, 2048)) ∧ σ.2.2 f 0 = some (f + 1) ∧ wf n B ∧ σ.1 f 1 = nI (2 ^ n - 1) ∧ ∀ s, s < 2 ^ n → σ.1 (f + 1) s = nI (ar B n s)
/-- two cells that lie side by side -/
def tw2 (f l _ : Nat) : Bool := l == f || l == f + 1
theorem tw2_n {f l j : Nat} (h1 : l ≠ f) (h2 : l ≠ f + 1) : tw2 f l j = false := by simp [tw2, h1, h2]
theorem tw2_0 (f j : Nat) : tw2 f f j = true := by simp [tw2]
theorem tw2_1 (f j : Nat) : tw2 f (f + 1) j = true := by simp [tw2]
theorem ar_congr {s u : Nat} : ∀ {m : Nat}, (∀ j, j < m → s.testBit j = u.testBit j) → ar B m s = ar B m u := by
  intro m
  induction m with
  | zero => intro _; rfl
  | succ m ih => intro h; simp only [ar]; rw [ih (fun j hj => h j (by omega)), h m (by omega)]
theorem ar_low {s h : Nat} (hs : s < 2 ^ h) : ∀ {m : Nat}, h ≤ m → ar B m s = ar B h s := by
  intro m
  induction m with
  | zero => intro hm; have : h = 0 := by omega
            subst this; rfl
  | succ m ih =>
    intro hm
    by_cases hh : h = m + 1
    · subst hh; rfl
    · simp only [ar]
      rw [ih (by omega), Nat.testBit_lt_two_pow (Nat.lt_of_lt_of_le hs (Nat.pow_le_pow_right (by omega) (show h ≤ m by omega)))]
      simp
theorem ar_top {s h : Nat} (hs : s < 2 ^ h) : ar B (h + 1) (s + 2 ^ h) = ar B h s ||| B h := by
  simp only [ar]
  rw [Nat.add_comm, Nat.testBit_two_pow_add_eq, Nat.testBit_lt_two_pow hs]
  rw [ar_congr (u := s) (fun j hj => Nat.testBit_two_pow_add_gt hj s)]
  rfl
theorem c_lay (hc : ct σ t n B) (lf : px_lay tT f = some (.inl 3)) (lf1 : px_lay tT (f + 1) = some (.inr (0, 2048))) (hrf : σ.2.2 f 0 = some (f + 1)) (d1 : t ≠ f) (d2 : t ≠ f + 1) (d3 : t + 1 ≠ f) : ∃ υ, f_3002 tT σ f t = some υ ∧ fr (tw2 f) σ υ ∧ ft υ f n B := by
  have hall := c_all hc
  have hw := hc.2.2.2.1
  have hn := hw.1
  have hp := pw_le hn
  have d4 : t + 1 ≠ f + 1 := by omega
  have hkeep : ∀ υ, fr (tw2 f) σ υ → ct υ t n B := fun υ h => ct_fr h (fun j => tw2_n d1 d2) (fun j => tw2_n d3 d4) hc
  have inner : ∀ h υ, h < n → fr (tw2 f) σ υ → υ.1 f 1 = nI (2 ^ n - 1) → (∀ s, s < 2 ^ h → υ.1 (f + 1) s = nI (ar B h s)) → υ.2.2 f 0 = some (f + 1) → ∃ ρ, f_3002_32 tT f t (nI h) (nI (2 ^ h)) (nI 0) υ = some (.inl (nI (h + 1), ρ)) ∧ fr (tw2 f) σ ρ ∧ ρ.1 f 1 = nI (2 ^ n - 1) ∧ (∀ s, s < 2 ^ (h + 1) → ρ.1 (f + 1) s = nI (ar B (h + 1) s)) ∧ ρ.2.2 f 0 = some (f + 1) := by
    intro h υ hh hf h1 h2 h3
    have hph : 2 ^ h ≤ 1024 := Nat.pow_le_pow_right (n := 2) (j := 10) (by omega) (by omega)
    have hpS : 2 ^ (h + 1) = 2 ^ h + 2 ^ h := by rw [Nat.pow_succ]; omega
    unfold f_3002_32
    obtain ⟨b, hb, ρ, rfl, r1, r2, r3, r4⟩ := lp_for (F := fun s : Int32 × px_M => F_3002_32 tT f t (nI h) (nI (2 ^ h)) s.1 s.2) (fun j s => s.1 = nI j ∧ fr (tw2 f) σ s.2 ∧ s.2.1 f 1 = nI (2 ^ n - 1) ∧ (∀ u, u < 2 ^ h → s.2.1 (f + 1) u = nI (ar B h u)) ∧ (∀ u, u < j → s.2.1 (f + 1) (u + 2 ^ h) = nI (ar B h u ||| B h)) ∧ s.2.2.2 f 0 = some (f + 1)) (fun b => ∃ ρ, b = .inl (nI (h + 1), ρ) ∧ fr (tw2 f) σ ρ ∧ ρ.1 f 1 = nI (2 ^ n - 1) ∧ (∀ s, s < 2 ^ (h + 1) → ρ.1 (f + 1) s = nI (ar B (h + 1) s)) ∧ ρ.2.2 f 0 = some (f + 1)) (2 ^ h) (fun j s hj hI => by
      obtain ⟨x, ρ⟩ := s
      obtain ⟨hx, g1, g2, g3, g4, g5⟩ := hI
      dsimp only at hx g1 g2 g3 g4 g5
      subst hx
      obtain ⟨k1, k2, kr, -, kn, knb⟩ := hkeep ρ g1
      refine ⟨(nI (j + 1), px_wi ρ (f + 1) (j + 2 ^ h) (nI (ar B h j ||| B h))), ?_, rfl, fr_wi g1 _ (tw2_1 f _), ?_, ?_, ?_, ?_⟩
      · simp (disch := omega) only [F_3002_32, lf, lf1, k1, k2, kr, g5, gd_tt, oA_arr, px_obj_s, Option.bind_some, Option.map_some, Option.bind_none, eq_self, true_or, or_true, px_av_0, px_av_1, px_av_2, px_av_10, px_av_11, bn, wi_1, wi_2, wl_1, wl_21, wl_22, wr_1, wr_21, wr_22, Sum.elim_inl, Sum.elim_inr, ↓reduceIte, Nat.reduceLT, Nat.reduceLeDiff, not_false_eq_true, not_true_eq_false, Nat.reduceEqDiff, Nat.reduceAdd, reduceCtorEq, and_true, true_and, and_false, false_and, false_or, or_false, true_and, and_true, ni_divL, ni_subL, nI_add, pk_mul, nI_leI, nI_ltI, nI_eq, vp_in_eq, nI_clamp, ↓ni_tst, ni_tst2, fa_and, fa_or, ni_bit1, ni_1s, nI_l, mb_eq0, mb_ne0, mb_eq1, gd_tt, gd_t, bft, g3, knb]
        rw [if_neg (by omega)]
      · show px_up ρ.1 (f + 1) (j + 2 ^ h) _ f 1 = _
        rw [px_up_row (by omega)]; exact g2
      · intro u hu
        show px_up ρ.1 (f + 1) (j + 2 ^ h) _ (f + 1) u = _
        rw [up_s, if_neg (by omega)]; exact g3 u hu
      · intro u hu
        show px_up ρ.1 (f + 1) (j + 2 ^ h) _ (f + 1) (u + 2 ^ h) = _
        rw [up_s]
        by_cases huj : u = j
        · subst huj; rw [if_pos rfl]
        · rw [if_neg (by omega)]; exact g4 u (by omega)
      · exact g5) (fun s hI => by
      obtain ⟨x, ρ⟩ := s
      obtain ⟨hx, g1, g2, g3, g4, g5⟩ := hI
      dsimp only at hx g1 g2 g3 g4 g5
      subst hx
      refine ⟨.inl (nI (h + 1), ρ), ?_, ρ, rfl, g1, g2, ?_, g5⟩
      · simp (disch := omega) only [F_3002_32, gd_tt, oA_arr, px_obj_s, Option.bind_some, Option.map_some, Option.bind_none, eq_self, true_or, or_true, px_av_0, px_av_1, px_av_2, px_av_10, px_av_11, bn, wi_1, wi_2, wl_1, wl_21, wl_22, wr_1, wr_21, wr_22, Sum.elim_inl, Sum.elim_inr, ↓reduceIte, Nat.reduceLT, Nat.reduceLeDiff, not_false_eq_true, not_true_eq_false, Nat.reduceEqDiff, Nat.reduceAdd, reduceCtorEq, and_true, true_and, and_false, false_and, false_or, or_false, true_and, and_true, ni_divL, ni_subL, nI_add, pk_mul, nI_leI, nI_ltI, nI_eq, vp_in_eq, nI_clamp, ↓ni_tst, ni_tst2, fa_and, fa_or, ni_bit1, ni_1s, nI_l, mb_eq0, mb_ne0, mb_eq1, gd_tt, gd_t, bft]
        rw [if_pos (by omega)]
      · intro s hs
        by_cases hs2 : s < 2 ^ h
        · rw [g3 s hs2, ar_low hs2 (Nat.le_succ h)]
        · have := g4 (s - 2 ^ h) (by omega)
          rw [show s - 2 ^ h + 2 ^ h = s by omega] at this
          have h5 := ar_top (B := B) (s := s - 2 ^ h) (h := h) (by omega)
          rw [show s - 2 ^ h + 2 ^ h = s by omega] at h5
          rw [this, h5]) 0 (nI 0, υ) (Nat.zero_le _) ⟨rfl, hf, h1, h2, fun u hu => absurd hu (by omega), h3⟩
    exact ⟨ρ, hb, r1, r2, r3, r4⟩
  have outer : ∀ υ, fr (tw2 f) σ υ → υ.1 f 1 = nI (2 ^ n - 1) → υ.1 (f + 1) 0 = nI 0 → υ.2.2 f 0 = some (f + 1) → ∃ ρ, f_3002_17 tT f t (nI 0) υ = some ρ ∧ fr (tw2 f) σ ρ ∧ ft ρ f n B := by
    intro υ hf h1 h2 h3
    unfold f_3002_17
    exact lp_for (F := fun s : Int32 × px_M => F_3002_17 tT f t s.1 s.2) (fun j s => s.1 = nI j ∧ fr (tw2 f) σ s.2 ∧ s.2.1 f 1 = nI (2 ^ n - 1) ∧ (∀ u, u < 2 ^ j → s.2.1 (f + 1) u = nI (ar B j u)) ∧ s.2.2.2 f 0 = some (f + 1)) (fun b => fr (tw2 f) σ b ∧ ft b f n B) n (fun j s hj hI => by
      obtain ⟨x, ρ⟩ := s
      obtain ⟨hx, g1, g2, g3, g5⟩ := hI
      dsimp only at hx g1 g2 g3 g5
      subst hx
      obtain ⟨k1, k2, kr, -, kn, knb⟩ := hkeep ρ g1
      obtain ⟨ρ', q1, q2, q3, q4, q5⟩ := inner j ρ hj g1 g2 g3 g5
      refine ⟨(nI (j + 1), ρ'), ?_, rfl, q2, q3, q4, q5⟩
      simp (disch := omega) only [F_3002_17, f_3002_29, k1, kn, gd_tt, oA_arr, px_obj_s, Option.bind_some, Option.map_some, Option.bind_none, eq_self, true_or, or_true, px_av_0, px_av_1, px_av_2, px_av_10, px_av_11, bn, wi_1, wi_2, wl_1, wl_21, wl_22, wr_1, wr_21, wr_22, Sum.elim_inl, Sum.elim_inr, ↓reduceIte, Nat.reduceLT, Nat.reduceLeDiff, not_false_eq_true, not_true_eq_false, Nat.reduceEqDiff, Nat.reduceAdd, reduceCtorEq, and_true, true_and, and_false, false_and, false_or, or_false, true_and, and_true, ni_divL, ni_subL, nI_add, pk_mul, nI_leI, nI_ltI, nI_eq, vp_in_eq, nI_clamp, ↓ni_tst, ni_tst2, fa_and, fa_or, ni_bit1, ni_1s, nI_l, mb_eq0, mb_ne0, mb_eq1, gd_tt, gd_t, bft]
      rw [if_neg (by omega), q1]) (fun s hI => by
      obtain ⟨x, ρ⟩ := s
      obtain ⟨hx, g1, g2, g3, g5⟩ := hI
      dsimp only at hx g1 g2 g3 g5
      subst hx
      obtain ⟨k1, k2, kr, -, kn, knb⟩ := hkeep ρ g1
      refine ⟨ρ, ?_, g1, lf, lf1, g5, hw, g2, g3⟩
      simp (disch := omega) only [F_3002_17, k1, kn, gd_tt, oA_arr, px_obj_s, Option.bind_some, Option.map_some, Option.bind_none, eq_self, true_or, or_true, px_av_0, px_av_1, px_av_2, px_av_10, px_av_11, bn, wi_1, wi_2, wl_1, wl_21, wl_22, wr_1, wr_21, wr_22, Sum.elim_inl, Sum.elim_inr, ↓reduceIte, Nat.reduceLT, Nat.reduceLeDiff, not_false_eq_true, not_true_eq_false, Nat.reduceEqDiff, Nat.reduceAdd, reduceCtorEq, and_true, true_and, and_false, false_and, false_or, or_false, true_and, and_true, ni_divL, ni_subL, nI_add, pk_mul, nI_leI, nI_ltI, nI_eq, vp_in_eq, nI_clamp, ↓ni_tst, ni_tst2, fa_and, fa_or, ni_bit1, ni_1s, nI_l, mb_eq0, mb_ne0, mb_eq1, gd_tt, gd_t, bft]
      rw [if_pos (by omega)]) 0 (nI 0, υ) (by omega) ⟨rfl, hf, h1, fun u hu => by
        have : u = 0 := by simpa using hu
        subst this; exact h2, h3⟩
  obtain ⟨k1, k2, kr, -, kn, knb⟩ := hc
  obtain ⟨ρ, q1, q2, q3⟩ := outer (px_wi (px_wi σ f 1 (nI (2 ^ n - 1))) (f + 1) 0 (nI 0)) (fr_wi (fr_wi (fr_rf _ _) _ (tw2_0 f _)) _ (tw2_1 f _)) (by
    show px_up (px_up σ.1 f 1 _) (f + 1) 0 _ f 1 = _
    rw [px_up_row (by omega), px_up_s]) (by
    show px_up (px_up σ.1 f 1 _) (f + 1) 0 _ (f + 1) 0 = _
    rw [px_up_s]) hrf
  refine ⟨ρ, ?_, q2, q3⟩
  simp (disch := omega) only [f_3002, k1, lf, lf1, hrf, hall, gd_tt, oA_arr, px_obj_s, Option.bind_some, Option.map_some, Option.bind_none, eq_self, true_or, or_true, px_av_0, px_av_1, px_av_2, px_av_10, px_av_11, bn, wi_1, wi_2, wl_1, wl_21, wl_22, wr_1, wr_21, wr_22, Sum.elim_inl, Sum.elim_inr, ↓reduceIte, Nat.reduceLT, Nat.reduceLeDiff, not_false_eq_true, not_true_eq_false, Nat.reduceEqDiff, Nat.reduceAdd, reduceCtorEq, and_true, true_and, and_false, false_and, false_or, or_false, true_and, and_true, ni_divL, ni_subL, nI_add, pk_mul, nI_leI, nI_ltI, nI_eq, vp_in_eq, nI_clamp, ↓ni_tst, ni_tst2, fa_and, fa_or, ni_bit1, ni_1s, nI_l, mb_eq0, mb_ne0, mb_eq1, gd_tt, gd_t, bft]
  exact q1
theorem c_aroundOf (hf : ft σ f n B) {s : Nat} (hs : s < 2 ^ n) : f_3003 tT σ f (nI s) = some (nI (ar B n s)) := by
  obtain ⟨l1, l2, hr, hw, h1, h2⟩ := hf
  have hp := pw_le hw.1
  simp (disch := omega) only [f_3003, l1, l2, hr, gd_tt, oA_arr, px_obj_s, Option.bind_some, Option.map_some, Option.bind_none, eq_self, true_or, or_true, px_av_0, px_av_1, px_av_2, px_av_10, px_av_11, bn, wi_1, wi_2, wl_1, wl_21, wl_22, wr_1, wr_21, wr_22, Sum.elim_inl, Sum.elim_inr, ↓reduceIte, Nat.reduceLT, Nat.reduceLeDiff, not_false_eq_true, not_true_eq_false, Nat.reduceEqDiff, Nat.reduceAdd, reduceCtorEq, and_true, true_and, and_false, false_and, false_or, or_false, true_and, and_true, ni_divL, ni_subL, nI_add, pk_mul, nI_leI, nI_ltI, nI_eq, vp_in_eq, nI_clamp, ↓ni_tst, ni_tst2, fa_and, fa_or, ni_bit1, ni_1s, nI_l, mb_eq0, mb_ne0, mb_eq1, gd_tt, gd_t, bft, h2]
  rw [if_neg (by omega), if_neg (by omega)]
theorem c_isFeast (hf : ft σ f n B) {s : Nat} (hs : s < 2 ^ n) : f_3004 tT σ f (nI s) = some (mb (fe n B s)) := by
  have ha := c_aroundOf hf hs
  obtain ⟨l1, l2, hr, hw, h1, h2⟩ := hf
  have hp := pw_le hw.1
  have hltn : ∀ j, j < n → B j < 2048 := fun j _ => wf_2048 hw j
  have hA : ar B n s &&& s < 2048 := and_lt (ar_lt hltn)
  simp (disch := omega) only [f_3004, l1, ha, gd_tt, oA_arr, px_obj_s, Option.bind_some, Option.map_some, Option.bind_none, eq_self, true_or, or_true, px_av_0, px_av_1, px_av_2, px_av_10, px_av_11, bn, wi_1, wi_2, wl_1, wl_21, wl_22, wr_1, wr_21, wr_22, Sum.elim_inl, Sum.elim_inr, ↓reduceIte, Nat.reduceLT, Nat.reduceLeDiff, not_false_eq_true, not_true_eq_false, Nat.reduceEqDiff, Nat.reduceAdd, reduceCtorEq, and_true, true_and, and_false, false_and, false_or, or_false, true_and, and_true, ni_divL, ni_subL, nI_add, pk_mul, nI_leI, nI_ltI, nI_eq, vp_in_eq, nI_clamp, ↓ni_tst, ni_tst2, fa_and, fa_or, ni_bit1, ni_1s, nI_l, mb_eq0, mb_ne0, mb_eq1, gd_tt, gd_t, bft]
  unfold fe
  by_cases h : ar B n s &&& s = 0
  · rw [if_pos h, decide_eq_true h]; rfl
  · rw [if_neg h, decide_eq_false h]; rfl
/-- how many sets are feasts -/
def fc (n : Nat) (B : Nat → Nat) (m : Nat) : Nat := sm (fun s => (fe n B s).toNat) m
theorem c_howMany (hf : ft σ f n B) : f_3005 tT σ f = some (nI (fc n B (2 ^ n))) := by
  have hi := @c_isFeast σ f n B hf
  obtain ⟨l1, l2, hr, hw, h1, h2⟩ := hf
  have hp := pw_le hw.1
  have hp1 : 1 ≤ 2 ^ n := Nat.one_le_two_pow
  unfold f_3005 f_3005_4
  refine lp_to (I := fun j => (nI (fc n B j), nI j)) (2 ^ n) (fun i hi2 => ?_) ?_ 0 (Nat.zero_le _)
  · simp (disch := omega) only [F_3005_4, l1, h1, hi hi2, gd_tt, oA_arr, px_obj_s, Option.bind_some, Option.map_some, Option.bind_none, eq_self, true_or, or_true, px_av_0, px_av_1, px_av_2, px_av_10, px_av_11, bn, wi_1, wi_2, wl_1, wl_21, wl_22, wr_1, wr_21, wr_22, Sum.elim_inl, Sum.elim_inr, ↓reduceIte, Nat.reduceLT, Nat.reduceLeDiff, not_false_eq_true, not_true_eq_false, Nat.reduceEqDiff, Nat.reduceAdd, reduceCtorEq, and_true, true_and, and_false, false_and, false_or, or_false, true_and, and_true, ni_divL, ni_subL, nI_add, pk_mul, nI_leI, nI_ltI, nI_eq, vp_in_eq, nI_clamp, ↓ni_tst, ni_tst2, fa_and, fa_or, ni_bit1, ni_1s, nI_l, mb_eq0, mb_ne0, mb_eq1, gd_tt, gd_t, bft]
    rw [if_neg (by omega)]
    cases hb : fe n B i
    · simp [fc, sm, hb]
    · simp [fc, sm, hb]
  · simp (disch := omega) only [F_3005_4, l1, h1, gd_tt, oA_arr, px_obj_s, Option.bind_some, Option.map_some, Option.bind_none, eq_self, true_or, or_true, px_av_0, px_av_1, px_av_2, px_av_10, px_av_11, bn, wi_1, wi_2, wl_1, wl_21, wl_22, wr_1, wr_21, wr_22, Sum.elim_inl, Sum.elim_inr, ↓reduceIte, Nat.reduceLT, Nat.reduceLeDiff, not_false_eq_true, not_true_eq_false, Nat.reduceEqDiff, Nat.reduceAdd, reduceCtorEq, and_true, true_and, and_false, false_and, false_or, or_false, true_and, and_true, ni_divL, ni_subL, nI_add, pk_mul, nI_leI, nI_ltI, nI_eq, vp_in_eq, nI_clamp, ↓ni_tst, ni_tst2, fa_and, fa_or, ni_bit1, ni_1s, nI_l, mb_eq0, mb_ne0, mb_eq1, gd_tt, gd_t, bft]
    rw [if_pos (by omega)]
theorem e_feasts (hm : mo σ n B) : f_87_9 tT σ 0 (nI 0) (nI 0) = some (nI (fc n B (2 ^ n)), σ) := by
  obtain ⟨hR, hw, e1, hnb⟩ := id hm
  have hn := hw.1
  have hp := pw_le hn
  unfold f_87_9
  refine lp_to (I := fun j => (nI (fc n B j), nI j)) (2 ^ n) (fun i hi => ?_) ?_ 0 (Nat.zero_le _)
  · simp (disch := omega) only [F_87_9, f_87_37, la_0, la_1, la_2, la_3, la_4, la_15, la_16, la_17, la_18, la_19, la_20, la_23, la_24, la_25, la_26, la_27, la_28, la_31, la_35, la_36, la_37, rm_0_1 hR, rm_0_2 hR, rm_0_3 hR, rm_0_4 hR, rm_0_15 hR, rm_0_16 hR, rm_0_17 hR, rm_0_18 hR, rm_0_19 hR, rm_0_20 hR, rm_0_23 hR, rm_0_24 hR, rm_0_25 hR, rm_0_26 hR, rm_0_27 hR, rm_0_28 hR, rm_0_31 hR, rm_0_35 hR, rm_0_36 hR, rm_0_37 hR, gd_tt, oA_arr, px_obj_s, Option.bind_some, Option.map_some, Option.bind_none, eq_self, true_or, or_true, px_av_0, px_av_1, px_av_2, px_av_10, px_av_11, bn, wi_1, wi_2, wl_1, wl_21, wl_22, wr_1, wr_21, wr_22, Sum.elim_inl, Sum.elim_inr, ↓reduceIte, Nat.reduceLT, Nat.reduceLeDiff, not_false_eq_true, not_true_eq_false, Nat.reduceEqDiff, Nat.reduceAdd, reduceCtorEq, and_true, true_and, and_false, false_and, false_or, or_false, true_and, and_true, ni_divL, ni_subL, nI_add, pk_mul, nI_leI, nI_ltI, nI_eq, vp_in_eq, nI_clamp, ↓ni_tst, ni_tst2, fa_and, fa_or, ni_bit1, ni_1s, nI_l, mb_eq0, mb_ne0, mb_eq1, gd_tt, gd_t, bft, e1, e_isFeast hm]
    rw [if_neg (by omega)]
    cases hb : fe n B i
    · simp [fc, sm, hb]
    · simp [fc, sm, hb]
  · simp (disch := omega) only [F_87_9, la_0, la_1, la_2, la_3, la_4, la_15, la_16, la_17, la_18, la_19, la_20, la_23, la_24, la_25, la_26, la_27, la_28, la_31, la_35, la_36, la_37, rm_0_1 hR, rm_0_2 hR, rm_0_3 hR, rm_0_4 hR, rm_0_15 hR, rm_0_16 hR, rm_0_17 hR, rm_0_18 hR, rm_0_19 hR, rm_0_20 hR, rm_0_23 hR, rm_0_24 hR, rm_0_25 hR, rm_0_26 hR, rm_0_27 hR, rm_0_28 hR, rm_0_31 hR, rm_0_35 hR, rm_0_36 hR, rm_0_37 hR, gd_tt, oA_arr, px_obj_s, Option.bind_some, Option.map_some, Option.bind_none, eq_self, true_or, or_true, px_av_0, px_av_1, px_av_2, px_av_10, px_av_11, bn, wi_1, wi_2, wl_1, wl_21, wl_22, wr_1, wr_21, wr_22, Sum.elim_inl, Sum.elim_inr, ↓reduceIte, Nat.reduceLT, Nat.reduceLeDiff, not_false_eq_true, not_true_eq_false, Nat.reduceEqDiff, Nat.reduceAdd, reduceCtorEq, and_true, true_and, and_false, false_and, false_or, or_false, true_and, and_true, ni_divL, ni_subL, nI_add, pk_mul, nI_leI, nI_ltI, nI_eq, vp_in_eq, nI_clamp, ↓ni_tst, ni_tst2, fa_and, fa_or, ni_bit1, ni_1s, nI_l, mb_eq0, mb_ne0, mb_eq1, gd_tt, gd_t, bft, e1]
    rw [if_pos (by omega)]
/-- a feast to which nobody can be added -/
def fu (n : Nat) (B : Nat → Nat) (s : Nat) : Bool := decide (ar B n s ^^^ s = 2 ^ n - 1) && fe n B s
theorem ar_n (hw : wf n B) (s : Nat) {x : Nat} (hx : (ar B n s).testBit x = true) : x < n := by
  obtain ⟨j, -, -, h3⟩ := ar_tb.mp hx
  exact wf_r hw h3
theorem fu_iff (hw : wf n B) {s : Nat} (hs : s < 2 ^ n) (hf : fe n B s = true) : fu n B s = true ↔ ∀ h, h < n → s.testBit h = false → ¬ B h &&& s = 0 := by
  have hd : ∀ x, ¬ ((ar B n s).testBit x = true ∧ s.testBit x = true) := by
    intro x hx
    have h0 : ar B n s &&& s = 0 := by unfold fe at hf; exact of_decide_eq_true hf
    have : (ar B n s &&& s).testBit x = true := by rw [Nat.testBit_and, hx.1, hx.2]; rfl
    rw [h0] at this
    simp at this
  have hz : ∀ h, h < n → (B h &&& s = 0 ↔ (ar B n s).testBit h = false) := by
    intro h hh
    constructor
    · intro q
      cases hb : (ar B n s).testBit h with
      | false => rfl
      | true =>
        obtain ⟨j, j1, j2, j3⟩ := ar_tb.mp hb
        have : (B h &&& s).testBit j = true := by rw [Nat.testBit_and, wf_s hw j3, j2]; rfl
        rw [q] at this
        simp at this
    · intro q
      apply tb_eq
      intro i
      rw [Nat.testBit_and, Nat.zero_testBit, Bool.and_eq_true]
      constructor
      · rintro ⟨q1, q2⟩
        rw [ar_tb.mpr ⟨i, wf_r hw q1, q2, wf_s hw q1⟩] at q
        cases q
      · intro q; cases q
  unfold fu
  rw [hf, Bool.and_true, decide_eq_true_eq]
  constructor
  · intro h x hx hsx
    rw [hz x hx]
    have : (ar B n s ^^^ s).testBit x = true := by rw [h, tb_all, decide_eq_true hx]
    rw [Nat.testBit_xor, hsx] at this
    simpa using this
  · intro h
    apply Nat.eq_of_testBit_eq
    intro x
    rw [Nat.testBit_xor, tb_all]
    by_cases hx : x < n
    · rw [decide_eq_true hx]
      have hdx := hd x
      cases h1 : s.testBit x
      · have := h x hx h1
        rw [hz x hx] at this
        cases h2 : (ar B n s).testBit x
        · exact absurd h2 this
        · rfl
      · cases h2 : (ar B n s).testBit x
        · rfl
        · exact absurd ⟨h2, h1⟩ hdx
    · rw [decide_eq_false hx]
      have h1 : s.testBit x = false := tb_ff (tb_lt hs) (by omega)
      have h2 : (ar B n s).testBit x = false := tb_ff (ar_n hw s) (by omega)
      rw [h1, h2]; rfl
theorem e_isFull (hm : mo σ n B) {s : Nat} (hs : s < 2 ^ n) : f_88 tT σ 0 (nI s) = some (mb (fu n B s)) := by
  obtain ⟨hR, hw, h1, hnb⟩ := id hm
  have hn := hw.1
  have hp := pw_le hn
  have hlt := wf_2048 hw
  have hif := e_isFeast hm (show s < 2048 by omega)
  cases hf : fe n B s
  · have : fu n B s = false := by unfold fu; rw [hf, Bool.and_false]
    rw [this]
    simp only [f_88, la_0, hif, hf, gd_tt, oA_arr, px_obj_s, Option.bind_some, Option.map_some, Option.bind_none, eq_self, true_or, or_true, px_av_0, px_av_1, px_av_2, px_av_10, px_av_11, bn, wi_1, wi_2, wl_1, wl_21, wl_22, wr_1, wr_21, wr_22, Sum.elim_inl, Sum.elim_inr, ↓reduceIte, Nat.reduceLT, Nat.reduceLeDiff, not_false_eq_true, not_true_eq_false, Nat.reduceEqDiff, Nat.reduceAdd, reduceCtorEq, and_true, true_and, and_false, false_and, false_or, or_false, mb_f0]
  · have hfi := fu_iff hw hs hf
    simp only [f_88, la_0, hif, hf, gd_tt, oA_arr, px_obj_s, Option.bind_some, Option.map_some, Option.bind_none, eq_self, true_or, or_true, px_av_0, px_av_1, px_av_2, px_av_10, px_av_11, bn, wi_1, wi_2, wl_1, wl_21, wl_22, wr_1, wr_21, wr_22, Sum.elim_inl, Sum.elim_inr, ↓reduceIte, Nat.reduceLT, Nat.reduceLeDiff, not_false_eq_true, not_true_eq_false, Nat.reduceEqDiff, Nat.reduceAdd, reduceCtorEq, and_true, true_and, and_false, false_and, false_or, or_false, mb_t1, n10]
    unfold f_88_12
    obtain ⟨b, hb, hq⟩ := lp_rel (F := fun x : Int32 => F_88_12 tT σ 0 (nI s) x) (fun j x => x = nI j ∧ ∀ h, h < j → s.testBit h = false → ¬ B h &&& s = 0) (fun b => b = mb (fu n B s)) n (fun j x hj hI => by
      obtain ⟨rfl, hI⟩ := hI
      have hA : B j &&& s < 2048 := and_lt (hlt j)
      simp (disch := omega) only [F_88_12, f_88_43, la_0, la_1, rm_0_1 hR, gd_tt, oA_arr, px_obj_s, Option.bind_some, Option.map_some, Option.bind_none, eq_self, true_or, or_true, px_av_0, px_av_1, px_av_2, px_av_10, px_av_11, bn, wi_1, wi_2, wl_1, wl_21, wl_22, wr_1, wr_21, wr_22, Sum.elim_inl, Sum.elim_inr, ↓reduceIte, Nat.reduceLT, Nat.reduceLeDiff, not_false_eq_true, not_true_eq_false, Nat.reduceEqDiff, Nat.reduceAdd, reduceCtorEq, and_true, true_and, and_false, false_and, false_or, or_false, true_and, and_true, ni_divL, ni_subL, nI_add, pk_mul, nI_leI, nI_ltI, nI_eq, vp_in_eq, nI_clamp, ↓ni_tst, ni_tst2, fa_and, fa_or, ni_bit1, ni_1s, nI_l, mb_eq0, mb_ne0, mb_eq1, gd_tt, gd_t, bft, h1, e_isIn]
      by_cases hjn : n ≤ j
      · right
        have hj' : j = n := by omega
        subst hj'
        refine ⟨nI 1, by rw [if_pos hjn], ?_⟩
        rw [hfi.mpr hI]; rfl
      · rw [if_neg hjn]
        cases h2 : s.testBit j
        · by_cases h3 : B j &&& s = 0
          · right
            refine ⟨nI 0, ?_, ?_⟩
            · simp (disch := omega) only [gd_tt, oA_arr, px_obj_s, Option.bind_some, Option.map_some, Option.bind_none, eq_self, true_or, or_true, px_av_0, px_av_1, px_av_2, px_av_10, px_av_11, bn, wi_1, wi_2, wl_1, wl_21, wl_22, wr_1, wr_21, wr_22, Sum.elim_inl, Sum.elim_inr, ↓reduceIte, Nat.reduceLT, Nat.reduceLeDiff, not_false_eq_true, not_true_eq_false, Nat.reduceEqDiff, Nat.reduceAdd, reduceCtorEq, and_true, true_and, and_false, false_and, false_or, or_false, true_and, and_true, ni_divL, ni_subL, nI_add, pk_mul, nI_leI, nI_ltI, nI_eq, vp_in_eq, nI_clamp, ↓ni_tst, ni_tst2, fa_and, fa_or, ni_bit1, ni_1s, nI_l, mb_eq0, mb_ne0, mb_eq1, gd_tt, gd_t, bft, e_near hm]
              rw [if_pos h3]
            · have : ¬ fu n B s = true := fun q => hfi.mp q j (by omega) h2 h3
              simp only [Bool.not_eq_true] at this
              rw [this]; rfl
          · left
            refine ⟨nI (j + 1), ?_, by omega, rfl, fun h hh hs' => ?_⟩
            · simp (disch := omega) only [gd_tt, oA_arr, px_obj_s, Option.bind_some, Option.map_some, Option.bind_none, eq_self, true_or, or_true, px_av_0, px_av_1, px_av_2, px_av_10, px_av_11, bn, wi_1, wi_2, wl_1, wl_21, wl_22, wr_1, wr_21, wr_22, Sum.elim_inl, Sum.elim_inr, ↓reduceIte, Nat.reduceLT, Nat.reduceLeDiff, not_false_eq_true, not_true_eq_false, Nat.reduceEqDiff, Nat.reduceAdd, reduceCtorEq, and_true, true_and, and_false, false_and, false_or, or_false, true_and, and_true, ni_divL, ni_subL, nI_add, pk_mul, nI_leI, nI_ltI, nI_eq, vp_in_eq, nI_clamp, ↓ni_tst, ni_tst2, fa_and, fa_or, ni_bit1, ni_1s, nI_l, mb_eq0, mb_ne0, mb_eq1, gd_tt, gd_t, bft, e_near hm]
              rw [if_neg h3]
            · by_cases hhj : h = j
              · subst hhj; exact h3
              · exact hI h (by omega) hs'
        · left
          refine ⟨nI (j + 1), by simp, by omega, rfl, fun h hh hs' => ?_⟩
          by_cases hhj : h = j
          · subst hhj; rw [h2] at hs'; cases hs'
          · exact hI h (by omega) hs') 0 (nI 0) (by omega) ⟨rfl, fun h hh => absurd hh (by omega)⟩
    rw [hb, hq]
def gc (n : Nat) (B : Nat → Nat) (m : Nat) : Nat := sm (fun s => (fu n B s).toNat) m
theorem e_full (hm : mo σ n B) : f_89_9 tT σ 0 (nI 0) (nI 0) = some (nI (gc n B (2 ^ n)), σ) := by
  obtain ⟨hR, hw, e1, hnb⟩ := id hm
  have hn := hw.1
  have hp := pw_le hn
  unfold f_89_9
  refine lp_to (I := fun j => (nI (gc n B j), nI j)) (2 ^ n) (fun i hi => ?_) ?_ 0 (Nat.zero_le _)
  · simp (disch := omega) only [F_89_9, f_89_37, la_0, la_1, la_2, la_3, la_4, la_15, la_16, la_17, la_18, la_19, la_20, la_23, la_24, la_25, la_26, la_27, la_28, la_31, la_35, la_36, la_37, rm_0_1 hR, rm_0_2 hR, rm_0_3 hR, rm_0_4 hR, rm_0_15 hR, rm_0_16 hR, rm_0_17 hR, rm_0_18 hR, rm_0_19 hR, rm_0_20 hR, rm_0_23 hR, rm_0_24 hR, rm_0_25 hR, rm_0_26 hR, rm_0_27 hR, rm_0_28 hR, rm_0_31 hR, rm_0_35 hR, rm_0_36 hR, rm_0_37 hR, e_isFull hm hi, gd_tt, oA_arr, px_obj_s, Option.bind_some, Option.map_some, Option.bind_none, eq_self, true_or, or_true, px_av_0, px_av_1, px_av_2, px_av_10, px_av_11, bn, wi_1, wi_2, wl_1, wl_21, wl_22, wr_1, wr_21, wr_22, Sum.elim_inl, Sum.elim_inr, ↓reduceIte, Nat.reduceLT, Nat.reduceLeDiff, not_false_eq_true, not_true_eq_false, Nat.reduceEqDiff, Nat.reduceAdd, reduceCtorEq, and_true, true_and, and_false, false_and, false_or, or_false, true_and, and_true, ni_divL, ni_subL, nI_add, pk_mul, nI_leI, nI_ltI, nI_eq, vp_in_eq, nI_clamp, ↓ni_tst, ni_tst2, fa_and, fa_or, ni_bit1, ni_1s, nI_l, mb_eq0, mb_ne0, mb_eq1, gd_tt, gd_t, bft, e1]
    rw [if_neg (by omega)]
    cases hb : fu n B i
    · simp [gc, sm, hb]
    · simp [gc, sm, hb]
  · simp (disch := omega) only [F_89_9, la_0, la_1, la_2, la_3, la_4, la_15, la_16, la_17, la_18, la_19, la_20, la_23, la_24, la_25, la_26, la_27, la_28, la_31, la_35, la_36, la_37, rm_0_1 hR, rm_0_2 hR, rm_0_3 hR, rm_0_4 hR, rm_0_15 hR, rm_0_16 hR, rm_0_17 hR, rm_0_18 hR, rm_0_19 hR, rm_0_20 hR, rm_0_23 hR, rm_0_24 hR, rm_0_25 hR, rm_0_26 hR, rm_0_27 hR, rm_0_28 hR, rm_0_31 hR, rm_0_35 hR, rm_0_36 hR, rm_0_37 hR, gd_tt, oA_arr, px_obj_s, Option.bind_some, Option.map_some, Option.bind_none, eq_self, true_or, or_true, px_av_0, px_av_1, px_av_2, px_av_10, px_av_11, bn, wi_1, wi_2, wl_1, wl_21, wl_22, wr_1, wr_21, wr_22, Sum.elim_inl, Sum.elim_inr, ↓reduceIte, Nat.reduceLT, Nat.reduceLeDiff, not_false_eq_true, not_true_eq_false, Nat.reduceEqDiff, Nat.reduceAdd, reduceCtorEq, and_true, true_and, and_false, false_and, false_or, or_false, true_and, and_true, ni_divL, ni_subL, nI_add, pk_mul, nI_leI, nI_ltI, nI_eq, vp_in_eq, nI_clamp, ↓ni_tst, ni_tst2, fa_and, fa_or, ni_bit1, ni_1s, nI_l, mb_eq0, mb_ne0, mb_eq1, gd_tt, gd_t, bft, e1]
    rw [if_pos (by omega)]
theorem c_full (hf : ft σ f n B) : f_3006 tT σ f = some (nI (gc n B (2 ^ n))) := by
  have hi := @c_isFeast σ f n B hf
  have ha := @c_aroundOf σ f n B hf
  obtain ⟨l1, l2, hr, hw, h1, h2⟩ := hf
  have hp := pw_le hw.1
  have hp1 : 1 ≤ 2 ^ n := Nat.one_le_two_pow
  have hltn : ∀ j, j < n → B j < 2048 := fun j _ => wf_2048 hw j
  unfold f_3006 f_3006_4
  refine lp_to (I := fun j => (nI (gc n B j), nI j)) (2 ^ n) (fun i hi2 => ?_) ?_ 0 (Nat.zero_le _)
  · have hal : ar B n i < 2048 := ar_lt hltn
    have hx : ar B n i ^^^ i < 2048 := Nat.xor_lt_two_pow (n := 11) hal (by omega)
    simp (disch := omega) only [F_3006_4, f_3006_37, l1, h1, hi hi2, ha hi2, gd_tt, oA_arr, px_obj_s, Option.bind_some, Option.map_some, Option.bind_none, eq_self, true_or, or_true, px_av_0, px_av_1, px_av_2, px_av_10, px_av_11, bn, wi_1, wi_2, wl_1, wl_21, wl_22, wr_1, wr_21, wr_22, Sum.elim_inl, Sum.elim_inr, ↓reduceIte, Nat.reduceLT, Nat.reduceLeDiff, not_false_eq_true, not_true_eq_false, Nat.reduceEqDiff, Nat.reduceAdd, reduceCtorEq, and_true, true_and, and_false, false_and, false_or, or_false, true_and, and_true, ni_divL, ni_subL, nI_add, pk_mul, nI_leI, nI_ltI, nI_eq, vp_in_eq, nI_clamp, ↓ni_tst, ni_tst2, fa_and, fa_or, ni_bit1, ni_1s, nI_l, mb_eq0, mb_ne0, mb_eq1, gd_tt, gd_t, bft, nx_xor]
    rw [if_neg (by omega)]
    by_cases h3 : ar B n i ^^^ i = 2 ^ n - 1
    · rw [if_pos h3]
      cases hb : fe n B i
      · simp [gc, sm, hb, fu]
      · simp [gc, sm, hb, fu, h3]
    · rw [if_neg h3]
      simp [gc, sm, fu, h3]
  · simp (disch := omega) only [F_3006_4, l1, h1, gd_tt, oA_arr, px_obj_s, Option.bind_some, Option.map_some, Option.bind_none, eq_self, true_or, or_true, px_av_0, px_av_1, px_av_2, px_av_10, px_av_11, bn, wi_1, wi_2, wl_1, wl_21, wl_22, wr_1, wr_21, wr_22, Sum.elim_inl, Sum.elim_inr, ↓reduceIte, Nat.reduceLT, Nat.reduceLeDiff, not_false_eq_true, not_true_eq_false, Nat.reduceEqDiff, Nat.reduceAdd, reduceCtorEq, and_true, true_and, and_false, false_and, false_or, or_false, true_and, and_true, ni_divL, ni_subL, nI_add, pk_mul, nI_leI, nI_ltI, nI_eq, vp_in_eq, nI_clamp, ↓ni_tst, ni_tst2, fa_and, fa_or, ni_bit1, ni_1s, nI_l, mb_eq0, mb_ne0, mb_eq1, gd_tt, gd_t, bft]
    rw [if_pos (by omega)]
def mI (o : Option Nat) : Int32 := match o with
  | none => -1
  | some b => nI (bc 11 b)
theorem c_largest (hf : ft σ f n B) {g : Nat} (hg : g < 2048) : f_3007 tT σ f (nI g) = some (nI ((fwo n B g (2 ^ n)).getD 0)) := by
  have hi := @c_isFeast σ f n B hf
  obtain ⟨l1, l2, hr, hw, h1, h2⟩ := hf
  have hp := pw_le hw.1
  have hp1 : 1 ≤ 2 ^ n := Nat.one_le_two_pow
  unfold f_3007 f_3007_7
  refine lp_to (I := fun j => (nI ((fwo n B g j).getD 0), mI (fwo n B g j), nI j)) (2 ^ n) (fun i hi2 => ?_) ?_ 0 (Nat.zero_le _)
  · have hA : i &&& g < 2048 := and_lt (by omega)
    have hb1 := bc_le 11 i
    simp (disch := omega) only [F_3007_7, f_3007_42, f_3007_51, l1, h1, hi hi2, gd_tt, oA_arr, px_obj_s, Option.bind_some, Option.map_some, Option.bind_none, eq_self, true_or, or_true, px_av_0, px_av_1, px_av_2, px_av_10, px_av_11, bn, wi_1, wi_2, wl_1, wl_21, wl_22, wr_1, wr_21, wr_22, Sum.elim_inl, Sum.elim_inr, ↓reduceIte, Nat.reduceLT, Nat.reduceLeDiff, not_false_eq_true, not_true_eq_false, Nat.reduceEqDiff, Nat.reduceAdd, reduceCtorEq, and_true, true_and, and_false, false_and, false_or, or_false, true_and, and_true, ni_divL, ni_subL, nI_add, pk_mul, nI_leI, nI_ltI, nI_eq, vp_in_eq, nI_clamp, ↓ni_tst, ni_tst2, fa_and, fa_or, ni_bit1, ni_1s, nI_l, mb_eq0, mb_ne0, mb_eq1, gd_tt, gd_t, bft, e_bitCount]
    rw [if_neg (by omega)]
    simp only [fwo]
    by_cases h3 : i &&& g = g
    · rw [if_pos h3]
      cases hq : fwo n B g i with
      | none =>
        have : ¬ nI (bc 11 i) ≤ -1 := by
          rw [fa_le, nI_toInt (by omega)]
          have : (-1 : Int32).toInt = -1 := by decide
          omega
        simp only [mI, this, ↓reduceIte]
        cases h4 : fe n B i
        · simp
        · simp [h3]
      | some b =>
        have hbl := fwo_lt hq
        have hb2 := bc_le 11 b
        simp only [mI]
        by_cases h4 : bc 11 i ≤ bc 11 b
        · have h5 : nI (bc 11 i) ≤ nI (bc 11 b) := by rw [nI_leI (by omega) (by omega)]; exact h4
          simp only [h5, ↓reduceIte, show ¬ bc 11 b < bc 11 i by omega, false_and, and_false]
        · have h5 : ¬ nI (bc 11 i) ≤ nI (bc 11 b) := by rw [nI_leI (by omega) (by omega)]; exact h4
          simp only [h5, ↓reduceIte, show bc 11 b < bc 11 i by omega, true_and, h3]
          cases h6 : fe n B i
          · simp
          · simp
    · rw [if_neg h3]
      cases hq : fwo n B g i with
      | none => simp [h3]
      | some b => simp [h3]
  · simp (disch := omega) only [F_3007_7, l1, h1, gd_tt, oA_arr, px_obj_s, Option.bind_some, Option.map_some, Option.bind_none, eq_self, true_or, or_true, px_av_0, px_av_1, px_av_2, px_av_10, px_av_11, bn, wi_1, wi_2, wl_1, wl_21, wl_22, wr_1, wr_21, wr_22, Sum.elim_inl, Sum.elim_inr, ↓reduceIte, Nat.reduceLT, Nat.reduceLeDiff, not_false_eq_true, not_true_eq_false, Nat.reduceEqDiff, Nat.reduceAdd, reduceCtorEq, and_true, true_and, and_false, false_and, false_or, or_false, true_and, and_true, ni_divL, ni_subL, nI_add, pk_mul, nI_leI, nI_ltI, nI_eq, vp_in_eq, nI_clamp, ↓ni_tst, ni_tst2, fa_and, fa_or, ni_bit1, ni_1s, nI_l, mb_eq0, mb_ne0, mb_eq1, gd_tt, gd_t, bft]
    rw [if_pos (by omega)]
theorem fwo_ex {must : Nat} (hf : fe n B must = true) : ∀ {j : Nat}, must < j → ∃ b, fwo n B must j = some b := by
  intro j
  induction j with
  | zero => intro h; omega
  | succ j ih =>
    intro h
    simp only [fwo]
    cases hq : fwo n B must j with
    | some b =>
      dsimp only
      split
      · exact ⟨_, rfl⟩
      · exact ⟨_, rfl⟩
    | none =>
      dsimp only
      by_cases hm : must < j
      · obtain ⟨b, hb⟩ := ih hm; rw [hq] at hb; cases hb
      · have : must = j := by omega
        subst this
        rw [if_pos ⟨Nat.and_self _, hf⟩]
        exact ⟨_, rfl⟩
theorem fe_one (hw : wf n B) {h : Nat} (hh : h < n) : fe n B (2 ^ h) = true := fe_iff.mpr (fun a ha hs => by
  rw [Nat.testBit_two_pow] at hs
  have : h = a := by simpa using hs
  subst this
  rw [tb_and0]
  exact hw.2.2.2.2 h)
theorem fe_0 : fe n B 0 = true := fe_iff.mpr (fun a _ hs => by simp at hs)
/-- the class's lay, for its own table -/
theorem c_feasting (hc : cl σ n B) : ∃ υ, f_3002 tT σ 160 111 = some υ ∧ fr SC σ υ ∧ ft υ 160 n B ∧ cR υ.2.2 := by
  obtain ⟨hR, ht⟩ := hc
  obtain ⟨υ, q1, q2, q3⟩ := c_lay (f := 160) ht la_160 la_161 (rc_160_0 hR) (by omega) (by omega) (by omega)
  have h2 : fr SC σ υ := fr_mono q2 (fun l j h => by
    simp only [SC, Bool.and_eq_false_iff, decide_eq_false_iff_not] at h
    exact tw2_n (by omega) (by omega))
  exact ⟨υ, q1, h2, q3, cR_fr h2 hR⟩
theorem a_feasts (hc : cl σ n B) : agI σ (f_12028 tT σ 100) (fun τ => f_87 tT τ 0) n B := by
  obtain ⟨υ, q1, q2, q3, hR'⟩ := c_feasting hc
  obtain ⟨hR, ht⟩ := hc
  refine ⟨nI (fc n B (2 ^ n)), υ, ?_, q2, fun τ hm => ⟨px_wi τ 0 0 (nI 0), ?_, fr_thr (fr_rf _ _)⟩⟩
  · simp only [f_12028, la_100, la_102, la_103, la_104, la_105, la_110, la_111, la_112, la_113, la_114, la_115, la_116, la_117, la_120, la_121, la_122, la_123, la_124, la_125, la_126, la_127, la_130, la_131, la_132, la_133, la_134, la_135, la_136, la_137, la_140, la_141, la_142, la_143, la_144, la_145, la_146, la_147, la_150, la_151, la_152, la_153, la_160, la_161, la_170, la_171, la_172, la_173, la_174, la_180, la_181, la_182, la_183, la_184, la_185, la_186, la_190, la_191, la_192, la_193, la_194, la_195, la_200, la_201, la_202, la_210, la_211, la_212, la_213, la_214, la_215, la_216, la_217, la_218, la_219, la_220, la_221, la_222, la_223, la_224, la_225, la_226, la_230, la_231, la_232, la_233, la_234, la_240, la_241, rc_100_0 hR, rc_100_1 hR, rc_100_2 hR, rc_100_3 hR, rc_100_4 hR, rc_100_5 hR, rc_100_6 hR, rc_100_7 hR, rc_100_8 hR, rc_100_9 hR, rc_100_10 hR, rc_100_11 hR, rc_100_12 hR, rc_100_13 hR, rc_100_14 hR, rc_100_15 hR, rc_111_1 hR, rc_113_1 hR, rc_113_2 hR, rc_113_3 hR, rc_110_0 hR, rc_110_1 hR, rc_110_5 hR, rc_121_1 hR, rc_123_1 hR, rc_123_2 hR, rc_123_3 hR, rc_120_0 hR, rc_120_1 hR, rc_120_5 hR, rc_131_1 hR, rc_133_1 hR, rc_133_2 hR, rc_133_3 hR, rc_130_0 hR, rc_130_1 hR, rc_130_5 hR, rc_141_1 hR, rc_143_1 hR, rc_143_2 hR, rc_143_3 hR, rc_140_0 hR, rc_140_1 hR, rc_140_5 hR, rc_150_3 hR, rc_150_4 hR, rc_150_5 hR, rc_150_6 hR, rc_160_0 hR, rc_173_1 hR, rc_170_0 hR, rc_170_1 hR, rc_181_0 hR, rc_185_1 hR, rc_180_0 hR, rc_180_1 hR, rc_180_2 hR, rc_192_1 hR, rc_194_1 hR, rc_190_0 hR, rc_201_1 hR, rc_200_0 hR, rc_214_1 hR, rc_211_0 hR, rc_211_1 hR, rc_216_1 hR, rc_221_1 hR, rc_221_2 hR, rc_221_3 hR, rc_225_1 hR, rc_210_0 hR, rc_210_1 hR, rc_210_2 hR, rc_210_3 hR, rc_210_4 hR, rc_231_1 hR, rc_233_1 hR, rc_230_0 hR, rc_230_1 hR, rc_240_1 hR, gd_tt, oA_arr, px_obj_s, Option.bind_some, Option.map_some, Option.bind_none, eq_self, true_or, or_true, px_av_0, px_av_1, px_av_2, px_av_10, px_av_11, bn, wi_1, wi_2, wl_1, wl_21, wl_22, wr_1, wr_21, wr_22, Sum.elim_inl, Sum.elim_inr, ↓reduceIte, Nat.reduceLT, Nat.reduceLeDiff, not_false_eq_true, not_true_eq_false, Nat.reduceEqDiff, Nat.reduceAdd, reduceCtorEq, and_true, true_and, and_false, false_and, false_or, or_false, q1, rc_100_5 hR', c_howMany q3]
  · simp only [f_87, la_0, gd_tt, oA_arr, px_obj_s, Option.bind_some, Option.map_some, Option.bind_none, eq_self, true_or, or_true, px_av_0, px_av_1, px_av_2, px_av_10, px_av_11, bn, wi_1, wi_2, wl_1, wl_21, wl_22, wr_1, wr_21, wr_22, Sum.elim_inl, Sum.elim_inr, ↓reduceIte, Nat.reduceLT, Nat.reduceLeDiff, not_false_eq_true, not_true_eq_false, Nat.reduceEqDiff, Nat.reduceAdd, reduceCtorEq, and_true, true_and, and_false, false_and, false_or, or_false, e_feasts (mo_thr hm)]
theorem a_full (hc : cl σ n B) : agI σ (f_12029 tT σ 100) (fun τ => f_89 tT τ 0) n B := by
  obtain ⟨υ, q1, q2, q3, hR'⟩ := c_feasting hc
  obtain ⟨hR, ht⟩ := hc
  refine ⟨nI (gc n B (2 ^ n)), υ, ?_, q2, fun τ hm => ⟨px_wi τ 0 0 (nI 0), ?_, fr_thr (fr_rf _ _)⟩⟩
  · simp only [f_12029, la_100, la_102, la_103, la_104, la_105, la_110, la_111, la_112, la_113, la_114, la_115, la_116, la_117, la_120, la_121, la_122, la_123, la_124, la_125, la_126, la_127, la_130, la_131, la_132, la_133, la_134, la_135, la_136, la_137, la_140, la_141, la_142, la_143, la_144, la_145, la_146, la_147, la_150, la_151, la_152, la_153, la_160, la_161, la_170, la_171, la_172, la_173, la_174, la_180, la_181, la_182, la_183, la_184, la_185, la_186, la_190, la_191, la_192, la_193, la_194, la_195, la_200, la_201, la_202, la_210, la_211, la_212, la_213, la_214, la_215, la_216, la_217, la_218, la_219, la_220, la_221, la_222, la_223, la_224, la_225, la_226, la_230, la_231, la_232, la_233, la_234, la_240, la_241, rc_100_0 hR, rc_100_1 hR, rc_100_2 hR, rc_100_3 hR, rc_100_4 hR, rc_100_5 hR, rc_100_6 hR, rc_100_7 hR, rc_100_8 hR, rc_100_9 hR, rc_100_10 hR, rc_100_11 hR, rc_100_12 hR, rc_100_13 hR, rc_100_14 hR, rc_100_15 hR, rc_111_1 hR, rc_113_1 hR, rc_113_2 hR, rc_113_3 hR, rc_110_0 hR, rc_110_1 hR, rc_110_5 hR, rc_121_1 hR, rc_123_1 hR, rc_123_2 hR, rc_123_3 hR, rc_120_0 hR, rc_120_1 hR, rc_120_5 hR, rc_131_1 hR, rc_133_1 hR, rc_133_2 hR, rc_133_3 hR, rc_130_0 hR, rc_130_1 hR, rc_130_5 hR, rc_141_1 hR, rc_143_1 hR, rc_143_2 hR, rc_143_3 hR, rc_140_0 hR, rc_140_1 hR, rc_140_5 hR, rc_150_3 hR, rc_150_4 hR, rc_150_5 hR, rc_150_6 hR, rc_160_0 hR, rc_173_1 hR, rc_170_0 hR, rc_170_1 hR, rc_181_0 hR, rc_185_1 hR, rc_180_0 hR, rc_180_1 hR, rc_180_2 hR, rc_192_1 hR, rc_194_1 hR, rc_190_0 hR, rc_201_1 hR, rc_200_0 hR, rc_214_1 hR, rc_211_0 hR, rc_211_1 hR, rc_216_1 hR, rc_221_1 hR, rc_221_2 hR, rc_221_3 hR, rc_225_1 hR, rc_210_0 hR, rc_210_1 hR, rc_210_2 hR, rc_210_3 hR, rc_210_4 hR, rc_231_1 hR, rc_233_1 hR, rc_230_0 hR, rc_230_1 hR, rc_240_1 hR, gd_tt, oA_arr, px_obj_s, Option.bind_some, Option.map_some, Option.bind_none, eq_self, true_or, or_true, px_av_0, px_av_1, px_av_2, px_av_10, px_av_11, bn, wi_1, wi_2, wl_1, wl_21, wl_22, wr_1, wr_21, wr_22, Sum.elim_inl, Sum.elim_inr, ↓reduceIte, Nat.reduceLT, Nat.reduceLeDiff, not_false_eq_true, not_true_eq_false, Nat.reduceEqDiff, Nat.reduceAdd, reduceCtorEq, and_true, true_and, and_false, false_and, false_or, or_false, q1, rc_100_5 hR', c_full q3]
  · simp only [f_89, la_0, gd_tt, oA_arr, px_obj_s, Option.bind_some, Option.map_some, Option.bind_none, eq_self, true_or, or_true, px_av_0, px_av_1, px_av_2, px_av_10, px_av_11, bn, wi_1, wi_2, wl_1, wl_21, wl_22, wr_1, wr_21, wr_22, Sum.elim_inl, Sum.elim_inr, ↓reduceIte, Nat.reduceLT, Nat.reduceLeDiff, not_false_eq_true, not_true_eq_false, Nat.reduceEqDiff, Nat.reduceAdd, reduceCtorEq, and_true, true_and, and_false, false_and, false_or, or_false, e_full (mo_thr hm)]
theorem a_feast (hc : cl σ n B) (v : Int32) : agI σ (f_12030 tT σ 100 v) (fun τ => f_90 tT τ 0 v) n B := by
  have hw := hc.2.2.2.2.1
  have hn := hw.1
  have hp1 : 0 < 2 ^ n := Nat.two_pow_pos n
  obtain ⟨υ, q1, q2, q3, hR'⟩ := c_feasting hc
  obtain ⟨hR, ht⟩ := hc
  by_cases hv : v = -1
  · subst hv
    obtain ⟨b, hb⟩ := fwo_ex (n := n) (B := B) fe_0 (j := 2 ^ n) hp1
    refine ⟨nI b, υ, ?_, q2, fun τ hm => ⟨px_wi τ 0 0 (nI 0), ?_, fr_thr (fr_rf _ _)⟩⟩
    · have h5 := c_largest q3 (g := 0) (by omega)
      rw [hb] at h5
      simp only [f_12030, f_12030_22, la_100, la_102, la_103, la_104, la_105, la_110, la_111, la_112, la_113, la_114, la_115, la_116, la_117, la_120, la_121, la_122, la_123, la_124, la_125, la_126, la_127, la_130, la_131, la_132, la_133, la_134, la_135, la_136, la_137, la_140, la_141, la_142, la_143, la_144, la_145, la_146, la_147, la_150, la_151, la_152, la_153, la_160, la_161, la_170, la_171, la_172, la_173, la_174, la_180, la_181, la_182, la_183, la_184, la_185, la_186, la_190, la_191, la_192, la_193, la_194, la_195, la_200, la_201, la_202, la_210, la_211, la_212, la_213, la_214, la_215, la_216, la_217, la_218, la_219, la_220, la_221, la_222, la_223, la_224, la_225, la_226, la_230, la_231, la_232, la_233, la_234, la_240, la_241, rc_100_0 hR, rc_100_1 hR, rc_100_2 hR, rc_100_3 hR, rc_100_4 hR, rc_100_5 hR, rc_100_6 hR, rc_100_7 hR, rc_100_8 hR, rc_100_9 hR, rc_100_10 hR, rc_100_11 hR, rc_100_12 hR, rc_100_13 hR, rc_100_14 hR, rc_100_15 hR, rc_111_1 hR, rc_113_1 hR, rc_113_2 hR, rc_113_3 hR, rc_110_0 hR, rc_110_1 hR, rc_110_5 hR, rc_121_1 hR, rc_123_1 hR, rc_123_2 hR, rc_123_3 hR, rc_120_0 hR, rc_120_1 hR, rc_120_5 hR, rc_131_1 hR, rc_133_1 hR, rc_133_2 hR, rc_133_3 hR, rc_130_0 hR, rc_130_1 hR, rc_130_5 hR, rc_141_1 hR, rc_143_1 hR, rc_143_2 hR, rc_143_3 hR, rc_140_0 hR, rc_140_1 hR, rc_140_5 hR, rc_150_3 hR, rc_150_4 hR, rc_150_5 hR, rc_150_6 hR, rc_160_0 hR, rc_173_1 hR, rc_170_0 hR, rc_170_1 hR, rc_181_0 hR, rc_185_1 hR, rc_180_0 hR, rc_180_1 hR, rc_180_2 hR, rc_192_1 hR, rc_194_1 hR, rc_190_0 hR, rc_201_1 hR, rc_200_0 hR, rc_214_1 hR, rc_211_0 hR, rc_211_1 hR, rc_216_1 hR, rc_221_1 hR, rc_221_2 hR, rc_221_3 hR, rc_225_1 hR, rc_210_0 hR, rc_210_1 hR, rc_210_2 hR, rc_210_3 hR, rc_210_4 hR, rc_231_1 hR, rc_233_1 hR, rc_230_0 hR, rc_230_1 hR, rc_240_1 hR, gd_tt, oA_arr, px_obj_s, Option.bind_some, Option.map_some, Option.bind_none, eq_self, true_or, or_true, px_av_0, px_av_1, px_av_2, px_av_10, px_av_11, bn, wi_1, wi_2, wl_1, wl_21, wl_22, wr_1, wr_21, wr_22, Sum.elim_inl, Sum.elim_inr, ↓reduceIte, Nat.reduceLT, Nat.reduceLeDiff, not_false_eq_true, not_true_eq_false, Nat.reduceEqDiff, Nat.reduceAdd, reduceCtorEq, and_true, true_and, and_false, false_and, false_or, or_false, q1, rc_100_5 hR', h5]
      rfl
    · have h5 := e_feastWith (mo_thr hm) (must := 0) (by omega)
      rw [hb] at h5
      simp only [f_90, la_0, gd_tt, oA_arr, px_obj_s, Option.bind_some, Option.map_some, Option.bind_none, eq_self, true_or, or_true, px_av_0, px_av_1, px_av_2, px_av_10, px_av_11, bn, wi_1, wi_2, wl_1, wl_21, wl_22, wr_1, wr_21, wr_22, Sum.elim_inl, Sum.elim_inr, ↓reduceIte, Nat.reduceLT, Nat.reduceLeDiff, not_false_eq_true, not_true_eq_false, Nat.reduceEqDiff, Nat.reduceAdd, reduceCtorEq, and_true, true_and, and_false, false_and, false_or, or_false, h5]
      rfl
  · rcases hs_cases v hn with ⟨h, hh, rfl⟩ | hno
    · have hlt : 2 ^ h < 2 ^ n := Nat.pow_lt_pow_right (by omega) hh
      have hpl := pw_lt (show h < 11 by omega)
      obtain ⟨b, hb⟩ := fwo_ex (n := n) (B := B) (fe_one hw hh) (j := 2 ^ n) hlt
      refine ⟨nI b, υ, ?_, q2, fun τ hm => ⟨px_wi τ 0 0 (nI 0), ?_, fr_thr (fr_rf _ _)⟩⟩
      · have h5 := c_largest q3 (g := 2 ^ h) hpl
        rw [hb] at h5
        simp only [f_12030, f_12030_22, hv, la_100, la_102, la_103, la_104, la_105, la_110, la_111, la_112, la_113, la_114, la_115, la_116, la_117, la_120, la_121, la_122, la_123, la_124, la_125, la_126, la_127, la_130, la_131, la_132, la_133, la_134, la_135, la_136, la_137, la_140, la_141, la_142, la_143, la_144, la_145, la_146, la_147, la_150, la_151, la_152, la_153, la_160, la_161, la_170, la_171, la_172, la_173, la_174, la_180, la_181, la_182, la_183, la_184, la_185, la_186, la_190, la_191, la_192, la_193, la_194, la_195, la_200, la_201, la_202, la_210, la_211, la_212, la_213, la_214, la_215, la_216, la_217, la_218, la_219, la_220, la_221, la_222, la_223, la_224, la_225, la_226, la_230, la_231, la_232, la_233, la_234, la_240, la_241, rc_100_0 hR, rc_100_1 hR, rc_100_2 hR, rc_100_3 hR, rc_100_4 hR, rc_100_5 hR, rc_100_6 hR, rc_100_7 hR, rc_100_8 hR, rc_100_9 hR, rc_100_10 hR, rc_100_11 hR, rc_100_12 hR, rc_100_13 hR, rc_100_14 hR, rc_100_15 hR, rc_111_1 hR, rc_113_1 hR, rc_113_2 hR, rc_113_3 hR, rc_110_0 hR, rc_110_1 hR, rc_110_5 hR, rc_121_1 hR, rc_123_1 hR, rc_123_2 hR, rc_123_3 hR, rc_120_0 hR, rc_120_1 hR, rc_120_5 hR, rc_131_1 hR, rc_133_1 hR, rc_133_2 hR, rc_133_3 hR, rc_130_0 hR, rc_130_1 hR, rc_130_5 hR, rc_141_1 hR, rc_143_1 hR, rc_143_2 hR, rc_143_3 hR, rc_140_0 hR, rc_140_1 hR, rc_140_5 hR, rc_150_3 hR, rc_150_4 hR, rc_150_5 hR, rc_150_6 hR, rc_160_0 hR, rc_173_1 hR, rc_170_0 hR, rc_170_1 hR, rc_181_0 hR, rc_185_1 hR, rc_180_0 hR, rc_180_1 hR, rc_180_2 hR, rc_192_1 hR, rc_194_1 hR, rc_190_0 hR, rc_201_1 hR, rc_200_0 hR, rc_214_1 hR, rc_211_0 hR, rc_211_1 hR, rc_216_1 hR, rc_221_1 hR, rc_221_2 hR, rc_221_3 hR, rc_225_1 hR, rc_210_0 hR, rc_210_1 hR, rc_210_2 hR, rc_210_3 hR, rc_210_4 hR, rc_231_1 hR, rc_233_1 hR, rc_230_0 hR, rc_230_1 hR, rc_240_1 hR, gd_tt, oA_arr, px_obj_s, Option.bind_some, Option.map_some, Option.bind_none, eq_self, true_or, or_true, px_av_0, px_av_1, px_av_2, px_av_10, px_av_11, bn, wi_1, wi_2, wl_1, wl_21, wl_22, wr_1, wr_21, wr_22, Sum.elim_inl, Sum.elim_inr, ↓reduceIte, Nat.reduceLT, Nat.reduceLeDiff, not_false_eq_true, not_true_eq_false, Nat.reduceEqDiff, Nat.reduceAdd, reduceCtorEq, and_true, true_and, and_false, false_and, false_or, or_false, q1, rc_100_5 hR', c_hasI ht hh, n10, ni_1s (show h < 31 by omega), h5]
        rfl
      · have h5 := e_feastWith (mo_thr hm) (must := 2 ^ h) hpl
        rw [hb] at h5
        simp only [f_90, la_0, hv, gd_tt, oA_arr, px_obj_s, Option.bind_some, Option.map_some, Option.bind_none, eq_self, true_or, or_true, px_av_0, px_av_1, px_av_2, px_av_10, px_av_11, bn, wi_1, wi_2, wl_1, wl_21, wl_22, wr_1, wr_21, wr_22, Sum.elim_inl, Sum.elim_inr, ↓reduceIte, Nat.reduceLT, Nat.reduceLeDiff, not_false_eq_true, not_true_eq_false, Nat.reduceEqDiff, Nat.reduceAdd, reduceCtorEq, and_true, true_and, and_false, false_and, false_or, or_false, e_hs (mo_thr hm) hh, n10, ni_1s (show h < 31 by omega), h5]
        rfl
    · refine ⟨-2, σ, ?_, fr_rf _ _, fun τ hm => ⟨px_wi τ 0 0 (nI 0), ?_, fr_thr (fr_rf _ _)⟩⟩
      · simp only [f_12030, hv, la_100, la_102, la_103, la_104, la_105, la_110, la_111, la_112, la_113, la_114, la_115, la_116, la_117, la_120, la_121, la_122, la_123, la_124, la_125, la_126, la_127, la_130, la_131, la_132, la_133, la_134, la_135, la_136, la_137, la_140, la_141, la_142, la_143, la_144, la_145, la_146, la_147, la_150, la_151, la_152, la_153, la_160, la_161, la_170, la_171, la_172, la_173, la_174, la_180, la_181, la_182, la_183, la_184, la_185, la_186, la_190, la_191, la_192, la_193, la_194, la_195, la_200, la_201, la_202, la_210, la_211, la_212, la_213, la_214, la_215, la_216, la_217, la_218, la_219, la_220, la_221, la_222, la_223, la_224, la_225, la_226, la_230, la_231, la_232, la_233, la_234, la_240, la_241, rc_100_0 hR, rc_100_1 hR, rc_100_2 hR, rc_100_3 hR, rc_100_4 hR, rc_100_5 hR, rc_100_6 hR, rc_100_7 hR, rc_100_8 hR, rc_100_9 hR, rc_100_10 hR, rc_100_11 hR, rc_100_12 hR, rc_100_13 hR, rc_100_14 hR, rc_100_15 hR, rc_111_1 hR, rc_113_1 hR, rc_113_2 hR, rc_113_3 hR, rc_110_0 hR, rc_110_1 hR, rc_110_5 hR, rc_121_1 hR, rc_123_1 hR, rc_123_2 hR, rc_123_3 hR, rc_120_0 hR, rc_120_1 hR, rc_120_5 hR, rc_131_1 hR, rc_133_1 hR, rc_133_2 hR, rc_133_3 hR, rc_130_0 hR, rc_130_1 hR, rc_130_5 hR, rc_141_1 hR, rc_143_1 hR, rc_143_2 hR, rc_143_3 hR, rc_140_0 hR, rc_140_1 hR, rc_140_5 hR, rc_150_3 hR, rc_150_4 hR, rc_150_5 hR, rc_150_6 hR, rc_160_0 hR, rc_173_1 hR, rc_170_0 hR, rc_170_1 hR, rc_181_0 hR, rc_185_1 hR, rc_180_0 hR, rc_180_1 hR, rc_180_2 hR, rc_192_1 hR, rc_194_1 hR, rc_190_0 hR, rc_201_1 hR, rc_200_0 hR, rc_214_1 hR, rc_211_0 hR, rc_211_1 hR, rc_216_1 hR, rc_221_1 hR, rc_221_2 hR, rc_221_3 hR, rc_225_1 hR, rc_210_0 hR, rc_210_1 hR, rc_210_2 hR, rc_210_3 hR, rc_210_4 hR, rc_231_1 hR, rc_233_1 hR, rc_230_0 hR, rc_230_1 hR, rc_240_1 hR, gd_tt, oA_arr, px_obj_s, Option.bind_some, Option.map_some, Option.bind_none, eq_self, true_or, or_true, px_av_0, px_av_1, px_av_2, px_av_10, px_av_11, bn, wi_1, wi_2, wl_1, wl_21, wl_22, wr_1, wr_21, wr_22, Sum.elim_inl, Sum.elim_inr, ↓reduceIte, Nat.reduceLT, Nat.reduceLeDiff, not_false_eq_true, not_true_eq_false, Nat.reduceEqDiff, Nat.reduceAdd, reduceCtorEq, and_true, true_and, and_false, false_and, false_or, or_false, c_has0 ht hno]
      · simp only [f_90, la_0, hv, gd_tt, oA_arr, px_obj_s, Option.bind_some, Option.map_some, Option.bind_none, eq_self, true_or, or_true, px_av_0, px_av_1, px_av_2, px_av_10, px_av_11, bn, wi_1, wi_2, wl_1, wl_21, wl_22, wr_1, wr_21, wr_22, Sum.elim_inl, Sum.elim_inr, ↓reduceIte, Nat.reduceLT, Nat.reduceLeDiff, not_false_eq_true, not_true_eq_false, Nat.reduceEqDiff, Nat.reduceAdd, reduceCtorEq, and_true, true_and, and_false, false_and, false_or, or_false, e_hs0 (mo_thr hm) hno]
end
