/-! annals: a town with its rules, its past and lines; copied as a whole -/
def anC (σ : px_M) (A n : Nat) (B : Nat → Nat) (nr : Nat) (S C : Nat → Nat) (d : Nat) (G : Nat → Nat → Int32) (ln : Int32) : Prop := ct σ (A + 1) n B ∧ cru σ (A + 3) nr S C ∧ rul nr S C ∧ ch σ A d G ∧ gw d G ∧ σ.1 A 2 = ln
def anM (τ : px_M) (off n : Nat) (B : Nat → Nat) (nr : Nat) (S C : Nat → Nat) (d : Nat) (G : Nat → Nat → Int32) (ln : Int32) : Prop := wf n B ∧ τ.1 1 (off + 1) = nI n ∧ (∀ h, h < 11 → τ.1 1 (off + 2 + h) = nI (B h)) ∧ mru τ off nr S C ∧ mh τ off d G ∧ τ.1 1 off = ln
/-- what an annals' cells are -/
def aL (σ : px_M) (A : Nat) : Prop := (px_lay tT A = some (.inl 1) ∧ px_lay tT (A + 1) = some (.inl 11) ∧ px_lay tT (A + 1 + 1) = some (.inr (0, 11)) ∧ px_lay tT (A + 7) = some (.inr (0, 144))) ∧ (px_lay tT (A + 3) = some (.inl 10) ∧ px_lay tT (A + 3 + 1) = some (.inr (0, 7)) ∧ px_lay tT (A + 3 + 2) = some (.inr (0, 6)) ∧ px_lay tT (A + 3 + 3) = some (.inr (0, 900))) ∧ (σ.2.2 A 0 = some (A + 1) ∧ σ.2.2 A 1 = some (A + 3) ∧ σ.2.2 A 5 = some (A + 7)) ∧ σ.2.2 (A + 1) 1 = some (A + 1 + 1) ∧ σ.2.2 (A + 3) 1 = some (A + 3 + 1) ∧ σ.2.2 (A + 3) 2 = some (A + 3 + 2) ∧ σ.2.2 (A + 3) 3 = some (A + 3 + 3)
theorem aL_110 {σ : px_M} (h : cR σ.2.2) : aL σ 110 := ⟨⟨la_110, la_111, la_112, la_117⟩, ⟨la_113, la_114, la_115, la_116⟩, ⟨rc_110_0 h, rc_110_1 h, rc_110_5 h⟩, rc_111_1 h, rc_113_1 h, rc_113_2 h, rc_113_3 h⟩
theorem aL_120 {σ : px_M} (h : cR σ.2.2) : aL σ 120 := ⟨⟨la_120, la_121, la_122, la_127⟩, ⟨la_123, la_124, la_125, la_126⟩, ⟨rc_120_0 h, rc_120_1 h, rc_120_5 h⟩, rc_121_1 h, rc_123_1 h, rc_123_2 h, rc_123_3 h⟩
theorem aL_130 {σ : px_M} (h : cR σ.2.2) : aL σ 130 := ⟨⟨la_130, la_131, la_132, la_137⟩, ⟨la_133, la_134, la_135, la_136⟩, ⟨rc_130_0 h, rc_130_1 h, rc_130_5 h⟩, rc_131_1 h, rc_133_1 h, rc_133_2 h, rc_133_3 h⟩
theorem aL_140 {σ : px_M} (h : cR σ.2.2) : aL σ 140 := ⟨⟨la_140, la_141, la_142, la_147⟩, ⟨la_143, la_144, la_145, la_146⟩, ⟨rc_140_0 h, rc_140_1 h, rc_140_5 h⟩, rc_141_1 h, rc_143_1 h, rc_143_2 h, rc_143_3 h⟩
/-- the cells of an annals -/
def anS (A l _ : Nat) : Bool := decide (A ≤ l) && decide (l ≤ A + 7)
theorem anS_t {A l : Nat} (j : Nat) (h1 : A ≤ l) (h2 : l ≤ A + 7) : anS A l j = true := by simp [anS, h1, h2]
theorem anS_f {A l : Nat} (j : Nat) (h : l < A ∨ A + 7 < l) : anS A l j = false := by
  simp only [anS, Bool.and_eq_false_iff, decide_eq_false_iff_not]; omega
theorem anS_i {A l j : Nat} (h : anS A l j = false) : l < A ∨ A + 7 < l := by
  simp only [anS, Bool.and_eq_false_iff, decide_eq_false_iff_not] at h; omega
def dA (A : Nat) : Prop := ∀ l j, A ≤ l → l ≤ A + 7 → DR l j = false
theorem dA_h {A : Nat} (h : A + 7 < 160) : dA A := fun l j h1 h2 => by
  cases hq : DR l j with
  | false => rfl
  | true =>
    simp only [DR, Bool.or_eq_true, Bool.and_eq_true, beq_iff_eq] at hq
    omega
section
variable {σ τ : px_M} {A X n nr d : Nat} {B S C : Nat → Nat} {G : Nat → Nat → Int32} {ln : Int32}
theorem aL_fr {Q : Nat → Nat → Bool} {υ : px_M} (h : fr Q σ υ) (hD : dA A) (ha : aL σ A) : aL υ A := by
  obtain ⟨l1, l2, ⟨r1, r2, r3⟩, r4, r5, r6, r7⟩ := ha
  refine ⟨l1, l2, ⟨?_, ?_, ?_⟩, ?_, ?_, ?_, ?_⟩
  · rw [h.2.2 A 0 (Or.inr (hD _ _ (by omega) (by omega)))]; exact r1
  · rw [h.2.2 A 1 (Or.inr (hD _ _ (by omega) (by omega)))]; exact r2
  · rw [h.2.2 A 5 (Or.inr (hD _ _ (by omega) (by omega)))]; exact r3
  · rw [h.2.2 (A + 1) 1 (Or.inr (hD _ _ (by omega) (by omega)))]; exact r4
  · rw [h.2.2 (A + 3) 1 (Or.inr (hD _ _ (by omega) (by omega)))]; exact r5
  · rw [h.2.2 (A + 3) 2 (Or.inr (hD _ _ (by omega) (by omega)))]; exact r6
  · rw [h.2.2 (A + 3) 3 (Or.inr (hD _ _ (by omega) (by omega)))]; exact r7
theorem anC_fr {Q : Nat → Nat → Bool} {υ : px_M} (h : fr Q σ υ) (hq : ∀ l j, A ≤ l → l ≤ A + 7 → Q l j = false) (hc : anC σ A n B nr S C d G ln) : anC υ A n B nr S C d G ln := by
  obtain ⟨c1, c2, c3, c4, c5, c6⟩ := hc
  exact ⟨ct_fr h (fun j => hq _ j (by omega) (by omega)) (fun j => hq _ j (by omega) (by omega)) c1, cru_fr h (fun j => hq _ j (by omega) (by omega)) (fun j => hq _ j (by omega) (by omega)) (fun j => hq _ j (by omega) (by omega)) (fun j => hq _ j (by omega) (by omega)) c2, c3, ch_fr h (hq _ _ (by omega) (by omega)) (hq _ _ (by omega) (by omega)) (fun j => hq _ j (by omega) (by omega)) c4, c5, by rw [h.1 A 2 (hq _ _ (by omega) (by omega))]; exact c6⟩
/-- rules copied -/
def tw4 (R l _ : Nat) : Bool := decide (R ≤ l) && decide (l ≤ R + 3)
theorem tw4_t {R l : Nat} (j : Nat) (h1 : R ≤ l) (h2 : l ≤ R + 3) : tw4 R l j = true := by simp [tw4, h1, h2]
theorem tw4_f {R l : Nat} (j : Nat) (h : l < R ∨ R + 3 < l) : tw4 R l j = false := by
  simp only [tw4, Bool.and_eq_false_iff, decide_eq_false_iff_not]; omega
theorem c_rulesB {R P : Nat} (hsep : R + 3 < P ∨ P + 3 < R) (hru : rul nr S C) (hp : cru σ P nr S C) (hlR : px_lay tT R = some (.inl 10) ∧ px_lay tT (R + 1) = some (.inr (0, 7)) ∧ px_lay tT (R + 2) = some (.inr (0, 6)) ∧ px_lay tT (R + 3) = some (.inr (0, 900))) (hrR : σ.2.2 R 1 = some (R + 1) ∧ σ.2.2 R 2 = some (R + 2) ∧ σ.2.2 R 3 = some (R + 3)) (hD : ∀ l j, R ≤ l → l ≤ R + 3 → DR l j = false) : ∃ υ, f_10003 tT σ R P = some υ ∧ fr (tw4 R) σ υ ∧ cru υ R nr S C := by
  have u6 := hru.1
  have u900 := hru.2.2.2.1
  obtain ⟨l0, l1, l2, l3⟩ := hlR
  have kp : ∀ ρ, fr (tw4 R) σ ρ → cru ρ P nr S C := fun ρ h => cru_fr h (fun j => tw4_f j (by omega)) (fun j => tw4_f j (by omega)) (fun j => tw4_f j (by omega)) (fun j => tw4_f j (by omega)) hp
  have kr : ∀ ρ, fr (tw4 R) σ ρ → ρ.2.2 R 1 = some (R + 1) ∧ ρ.2.2 R 2 = some (R + 2) ∧ ρ.2.2 R 3 = some (R + 3) := fun ρ h => ⟨by rw [h.2.2 R 1 (Or.inr (hD _ _ (by omega) (by omega)))]; exact hrR.1, by rw [h.2.2 R 2 (Or.inr (hD _ _ (by omega) (by omega)))]; exact hrR.2.1, by rw [h.2.2 R 3 (Or.inr (hD _ _ (by omega) (by omega)))]; exact hrR.2.2⟩
  -- the codes
  have lp3 : ∀ ρ, fr (tw4 R) σ ρ → ρ.1 R 0 = nI nr → ρ.1 R 4 = nI (S nr) → (∀ r, r ≤ nr → ρ.1 (R + 1) r = nI (S r)) → (∀ r, r < nr → ρ.1 (R + 2) r = nI (us S C r)) → ∃ υ, f_10003_70 tT R P (nI 0) ρ = some υ ∧ fr (tw4 R) σ υ ∧ cru υ R nr S C := by
    intro ρ h1 h2 h3 h4 h5
    unfold f_10003_70
    refine lp_for (F := fun s : Int32 × px_M => F_10003_70 tT R P s.1 s.2) (fun j q => ∃ ω, q = (nI j, ω) ∧ fr (tw4 R) σ ω ∧ ω.1 R 0 = nI nr ∧ ω.1 R 4 = nI (S nr) ∧ (∀ r, r ≤ nr → ω.1 (R + 1) r = nI (S r)) ∧ (∀ r, r < nr → ω.1 (R + 2) r = nI (us S C r)) ∧ ∀ i, i < j → ω.1 (R + 3) i = nI (ctr (C i))) _ (S nr) (fun j q hj hI => ?_) (fun q hI => ?_) 0 (nI 0, ρ) (by omega) ⟨ρ, rfl, h1, h2, h3, h4, h5, fun i hi => by omega⟩
    · obtain ⟨ω, rfl, g1, g2, g3, g4, g5, g6⟩ := hI
      obtain ⟨⟨m0, m1, m2, m3⟩, ⟨x1, x2, x3⟩, -, -, -, y, -⟩ := kp ω g1
      obtain ⟨z1, z2, z3⟩ := kr ω g1
      have a1 : ¬ nI (S nr) ≤ nI j := by rw [nI_leI (by omega) (by omega)]; omega
      have a2 : ¬ nI 900 ≤ nI j := by rw [nI_leI (by omega) (by omega)]; omega
      have c1 : vp_in (nI j) 900 := (vp_in_eq (by omega)).mpr (by omega)
      have c2 : (nI j).toNatClampNeg = j := nI_clamp (by omega)
      refine ⟨(nI (j + 1), px_wi ω (R + 3) j (nI (ctr (C j)))), ?_, _, rfl, fr_wi g1 _ (tw4_t _ (by omega) (by omega)), ?_, ?_, fun r hr => ?_, fun r hr => ?_, fun i hi => ?_⟩
      · dsimp only
        unfold F_10003_70
        simp only [l0, l3, m0, m3, g3, a1, a2, x3, z3, gd_tt, oA_arr, px_obj_s, Option.bind_some, Option.map_some, Option.bind_none, eq_self, true_or, or_true, px_av_0, px_av_1, px_av_2, px_av_10, px_av_11, bn, wi_1, wi_2, wl_1, wl_21, wl_22, wr_1, wr_21, wr_22, Sum.elim_inl, Sum.elim_inr, ↓reduceIte, Nat.reduceLT, Nat.reduceLeDiff, not_false_eq_true, not_true_eq_false, Nat.reduceEqDiff, Nat.reduceAdd, reduceCtorEq, and_true, true_and, and_false, false_and, false_or, or_false, c1, c2, y j hj, nI_add]
      · rw [wi_n (by omega)]; exact g2
      · rw [wi_n (by omega)]; exact g3
      · rw [wi_n (by omega)]; exact g4 r hr
      · rw [wi_n (by omega)]; exact g5 r hr
      · show px_up ω.1 (R + 3) j _ (R + 3) i = _
        rw [up_s]
        by_cases q : i = j
        · subst q; rw [if_pos rfl]
        · rw [if_neg q]; exact g6 i (by omega)
    · obtain ⟨ω, rfl, g1, g2, g3, g4, g5, g6⟩ := hI
      refine ⟨ω, ?_, g1, ⟨l0, l1, l2, l3⟩, kr ω g1, g2, g4, g5, g6, g3⟩
      have a1 : nI (S nr) ≤ nI (S nr) := by rw [nI_leI (by omega) (by omega)]; omega
      dsimp only
      unfold F_10003_70
      simp only [l0, g3, a1, gd_tt, oA_arr, px_obj_s, Option.bind_some, Option.map_some, Option.bind_none, eq_self, true_or, or_true, px_av_0, px_av_1, px_av_2, px_av_10, px_av_11, bn, wi_1, wi_2, wl_1, wl_21, wl_22, wr_1, wr_21, wr_22, Sum.elim_inl, Sum.elim_inr, ↓reduceIte, Nat.reduceLT, Nat.reduceLeDiff, not_false_eq_true, not_true_eq_false, Nat.reduceEqDiff, Nat.reduceAdd, reduceCtorEq, and_true, true_and, and_false, false_and, false_or, or_false]
  -- what rules use
  have lp2 : ∀ ρ, fr (tw4 R) σ ρ → ρ.1 R 0 = nI nr → ρ.1 R 4 = nI (S nr) → (∀ r, r ≤ nr → ρ.1 (R + 1) r = nI (S r)) → ∃ υ, f_10003_44 tT R P (nI 0) ρ = some υ ∧ fr (tw4 R) σ υ ∧ cru υ R nr S C := by
    intro ρ h1 h2 h3 h4
    unfold f_10003_44
    refine lp_for (F := fun s : Int32 × px_M => F_10003_44 tT R P s.1 s.2) (fun j q => ∃ ω, q = (nI j, ω) ∧ fr (tw4 R) σ ω ∧ ω.1 R 0 = nI nr ∧ ω.1 R 4 = nI (S nr) ∧ (∀ r, r ≤ nr → ω.1 (R + 1) r = nI (S r)) ∧ ∀ r, r < nr → r < j → ω.1 (R + 2) r = nI (us S C r)) _ 6 (fun j q hj hI => ?_) (fun q hI => ?_) 0 (nI 0, ρ) (by omega) ⟨ρ, rfl, h1, h2, h3, h4, fun i _ hi => by omega⟩
    · obtain ⟨ω, rfl, g1, g2, g3, g4, g5⟩ := hI
      obtain ⟨⟨m0, m1, m2, m3⟩, ⟨x1, x2, x3⟩, -, -, y, -, -⟩ := kp ω g1
      obtain ⟨z1, z2, z3⟩ := kr ω g1
      have a1 : ¬ nI 6 ≤ nI j := by rw [nI_leI (by omega) (by omega)]; omega
      have c1 : vp_in (nI j) 6 := (vp_in_eq (by omega)).mpr (by omega)
      have c2 : (nI j).toNatClampNeg = j := nI_clamp (by omega)
      refine ⟨(nI (j + 1), px_wi ω (R + 2) j (ω.1 (P + 2) j)), ?_, _, rfl, fr_wi g1 _ (tw4_t _ (by omega) (by omega)), ?_, ?_, fun r hr => ?_, fun r hr hrj => ?_⟩
      · dsimp only
        unfold F_10003_44
        simp only [l0, l2, m0, m2, a1, x2, z2, gd_tt, oA_arr, px_obj_s, Option.bind_some, Option.map_some, Option.bind_none, eq_self, true_or, or_true, px_av_0, px_av_1, px_av_2, px_av_10, px_av_11, bn, wi_1, wi_2, wl_1, wl_21, wl_22, wr_1, wr_21, wr_22, Sum.elim_inl, Sum.elim_inr, ↓reduceIte, Nat.reduceLT, Nat.reduceLeDiff, not_false_eq_true, not_true_eq_false, Nat.reduceEqDiff, Nat.reduceAdd, reduceCtorEq, and_true, true_and, and_false, false_and, false_or, or_false, c1, c2, nI_add]
      · rw [wi_n (by omega)]; exact g2
      · rw [wi_n (by omega)]; exact g3
      · rw [wi_n (by omega)]; exact g4 r hr
      · show px_up ω.1 (R + 2) j _ (R + 2) r = _
        rw [up_s]
        by_cases q : r = j
        · subst q; rw [if_pos rfl]; exact y r hr
        · rw [if_neg q]; exact g5 r hr (by omega)
    · obtain ⟨ω, rfl, g1, g2, g3, g4, g5⟩ := hI
      obtain ⟨υ, q1, q2⟩ := lp3 ω g1 g2 g3 g4 (fun r hr => g5 r hr (by omega))
      refine ⟨υ, ?_, q2⟩
      dsimp only
      unfold F_10003_44
      rw [if_pos (by decide), q1]
      rfl
  have lp1 : ∀ ρ, fr (tw4 R) σ ρ → ρ.1 R 0 = nI nr → ρ.1 R 4 = nI (S nr) → ∃ υ, f_10003_18 tT R P (nI 0) ρ = some υ ∧ fr (tw4 R) σ υ ∧ cru υ R nr S C := by
    intro ρ h1 h2 h3
    unfold f_10003_18
    refine lp_for (F := fun s : Int32 × px_M => F_10003_18 tT R P s.1 s.2) (fun j q => ∃ ω, q = (nI j, ω) ∧ fr (tw4 R) σ ω ∧ ω.1 R 0 = nI nr ∧ ω.1 R 4 = nI (S nr) ∧ ∀ r, r ≤ nr → r < j → ω.1 (R + 1) r = nI (S r)) _ 7 (fun j q hj hI => ?_) (fun q hI => ?_) 0 (nI 0, ρ) (by omega) ⟨ρ, rfl, h1, h2, h3, fun i _ hi => by omega⟩
    · obtain ⟨ω, rfl, g1, g2, g3, g5⟩ := hI
      obtain ⟨⟨m0, m1, m2, m3⟩, ⟨x1, x2, x3⟩, -, y, -, -, -⟩ := kp ω g1
      obtain ⟨z1, z2, z3⟩ := kr ω g1
      have a1 : ¬ nI 6 < nI j := by rw [nI_ltI (by omega) (by omega)]; omega
      have c1 : vp_in (nI j) 7 := (vp_in_eq (by omega)).mpr (by omega)
      have c2 : (nI j).toNatClampNeg = j := nI_clamp (by omega)
      refine ⟨(nI (j + 1), px_wi ω (R + 1) j (ω.1 (P + 1) j)), ?_, _, rfl, fr_wi g1 _ (tw4_t _ (by omega) (by omega)), ?_, ?_, fun r hr hrj => ?_⟩
      · dsimp only
        unfold F_10003_18
        simp only [l0, l1, m0, m1, a1, x1, z1, gd_tt, oA_arr, px_obj_s, Option.bind_some, Option.map_some, Option.bind_none, eq_self, true_or, or_true, px_av_0, px_av_1, px_av_2, px_av_10, px_av_11, bn, wi_1, wi_2, wl_1, wl_21, wl_22, wr_1, wr_21, wr_22, Sum.elim_inl, Sum.elim_inr, ↓reduceIte, Nat.reduceLT, Nat.reduceLeDiff, not_false_eq_true, not_true_eq_false, Nat.reduceEqDiff, Nat.reduceAdd, reduceCtorEq, and_true, true_and, and_false, false_and, false_or, or_false, c1, c2, nI_add]
      · rw [wi_n (by omega)]; exact g2
      · rw [wi_n (by omega)]; exact g3
      · show px_up ω.1 (R + 1) j _ (R + 1) r = _
        rw [up_s]
        by_cases q : r = j
        · subst q; rw [if_pos rfl]; exact y r hr
        · rw [if_neg q]; exact g5 r hr (by omega)
    · obtain ⟨ω, rfl, g1, g2, g3, g5⟩ := hI
      obtain ⟨υ, q1, q2⟩ := lp2 ω g1 g2 g3 (fun r hr => g5 r hr (by omega))
      refine ⟨υ, ?_, q2⟩
      dsimp only
      unfold F_10003_18
      rw [if_pos (by decide), q1]
      rfl
  obtain ⟨⟨m0, -⟩, -, d0, -, -, -, d4⟩ := id hp
  obtain ⟨υ, q1, q2, q3⟩ := lp1 (px_wi (px_wi σ R 0 (nI nr)) R 4 (nI (S nr))) (fr_wi (fr_wi (fr_rf _ _) _ (tw4_t _ (by omega) (by omega))) _ (tw4_t _ (by omega) (by omega))) (by
    show px_up (px_up σ.1 R 0 _) R 4 _ R 0 = _
    rw [up_s, if_neg (by decide)]; exact px_up_s _ _ _ _) (px_up_s _ _ _ _)
  refine ⟨υ, ?_, q2, q3⟩
  have hne : P ≠ R := by omega
  simp only [f_10003, l0, m0, gd_tt, oA_arr, px_obj_s, Option.bind_some, Option.map_some, Option.bind_none, eq_self, true_or, or_true, px_av_0, px_av_1, px_av_2, px_av_10, px_av_11, bn, wi_1, wi_2, wl_1, wl_21, wl_22, wr_1, wr_21, wr_22, Sum.elim_inl, Sum.elim_inr, ↓reduceIte, Nat.reduceLT, Nat.reduceLeDiff, not_false_eq_true, not_true_eq_false, Nat.reduceEqDiff, Nat.reduceAdd, reduceCtorEq, and_true, true_and, and_false, false_and, false_or, or_false, d0, px_up_row hne, d4, q1]
/-- annals copied -/
theorem c_annalsB (hsep : X + 7 < A ∨ A + 7 < X) (hX : dA X) (hXl : aL σ X) (hA : aL σ A) (hc : anC σ A n B nr S C d G ln) : ∃ υ, f_1002 tT σ X A = some υ ∧ fr (anS X) σ υ ∧ anC υ X n B nr S C d G ln := by
  obtain ⟨⟨xl0, xl1, xl2, xl7⟩, xl3, ⟨xr0, xr1, xr5⟩, xr11, xr31, xr32, xr33⟩ := id hXl
  obtain ⟨⟨al0, al1, al2, al7⟩, al3, ⟨ar0, ar1, ar5⟩, ar11, -⟩ := id hA
  obtain ⟨c1, c2, c3, c4, c5, c6⟩ := id hc
  obtain ⟨ρ, q1, q2, q3⟩ := c_become (t := X + 1) c1 xl1 xl2 xr11 (by omega) (by omega) (by omega)
  have f1 : fr (anS X) σ ρ := fr_mono q2 (fun l j h => tw2_n (by have := anS_i h; omega) (by have := anS_i h; omega))
  have hXρ := aL_fr f1 hX hXl
  have hcρ := anC_fr f1 (fun l j h1 h2 => anS_f j (by omega)) hc
  obtain ⟨⟨yl0, yl1, yl2, yl7⟩, yl3, ⟨yr0, yr1, yr5⟩, yr11, yr31, yr32, yr33⟩ := id hXρ
  obtain ⟨υ, p1, p2, p3⟩ := c_rulesB (R := X + 3) (P := A + 3) (by omega) c3 hcρ.2.1 yl3 ⟨yr31, yr32, yr33⟩ (fun l j h1 h2 => hX l j (by omega) (by omega))
  have f2 : fr (anS X) σ υ := fr_tr f1 (fr_mono p2 (fun l j h => tw4_f j (by have := anS_i h; omega)))
  have hcυ := anC_fr f2 (fun l j h1 h2 => anS_f j (by omega)) hc
  have ctυ : ct υ (X + 1) n B := ct_fr p2 (fun j => tw4_f j (by omega)) (fun j => tw4_f j (by omega)) q3
  have ar1ρ : ρ.2.2 A 1 = some (A + 3) := by rw [f1.2.2 A 1 (Or.inl (anS_f _ (by omega)))]; exact ar1
  -- the past
  obtain ⟨d12, h3, L, hL, h4, h7⟩ := id hcυ.2.2.2.1
  have lp : ∀ ω, fr (anS X) σ ω → ct ω (X + 1) n B → cru ω (X + 3) nr S C → ω.1 X 2 = ln → ω.1 X 3 = nI d → ω.1 X 4 = nI L → ∃ ψ, f_1002_48 tT X A (nI 0) ω = some ψ ∧ fr (anS X) σ ψ ∧ anC ψ X n B nr S C d G ln := by
    intro ω g1 g2 g3 g4 g5 g6
    unfold f_1002_48
    refine lp_for (F := fun s : Int32 × px_M => F_1002_48 tT X A s.1 s.2) (fun j q => ∃ ω, q = (nI j, ω) ∧ fr (anS X) σ ω ∧ ct ω (X + 1) n B ∧ cru ω (X + 3) nr S C ∧ ω.1 X 2 = ln ∧ ω.1 X 3 = nI d ∧ ω.1 X 4 = nI L ∧ ∀ i, i < j → ω.1 (X + 7) i = σ.1 (A + 7) i) _ 144 (fun j q hj hI => ?_) (fun q hI => ?_) 0 (nI 0, ω) (by omega) ⟨ω, rfl, g1, g2, g3, g4, g5, g6, fun i hi => by omega⟩
    · obtain ⟨ω, rfl, g1, g2, g3, g4, g5, g6, g7⟩ := hI
      obtain ⟨-, -, ⟨-, -, zr5⟩, -⟩ := aL_fr g1 hX hXl
      have ar5ω : ω.2.2 A 5 = some (A + 7) := by rw [g1.2.2 A 5 (Or.inl (anS_f _ (by omega)))]; exact ar5
      have hv : ω.1 (A + 7) j = σ.1 (A + 7) j := g1.1 _ _ (anS_f _ (by omega))
      have a1 : ¬ nI 144 ≤ nI j := by rw [nI_leI (by omega) (by omega)]; omega
      have k1 : vp_in (nI j) 144 := (vp_in_eq (by omega)).mpr (by omega)
      have k2 : (nI j).toNatClampNeg = j := nI_clamp (by omega)
      have w1 : fr (on (X + 7)) ω (px_wi ω (X + 7) j (σ.1 (A + 7) j)) := fr_wi (fr_rf _ _) _ (on_t _ _)
      refine ⟨(nI (j + 1), px_wi ω (X + 7) j (σ.1 (A + 7) j)), ?_, _, rfl, fr_wi g1 _ (anS_t _ (by omega) (by omega)), ct_fr w1 (fun i => by simp only [on, beq_eq_false_iff_ne]; omega) (fun i => by simp only [on, beq_eq_false_iff_ne]; omega) g2, cru_fr w1 (fun i => by simp only [on, beq_eq_false_iff_ne]; omega) (fun i => by simp only [on, beq_eq_false_iff_ne]; omega) (fun i => by simp only [on, beq_eq_false_iff_ne]; omega) (fun i => by simp only [on, beq_eq_false_iff_ne]; omega) g3, ?_, ?_, ?_, fun i hi => ?_⟩
      · dsimp only
        unfold F_1002_48
        simp only [xl0, xl7, al0, al7, zr5, ar5ω, gd_tt, oA_arr, px_obj_s, Option.bind_some, Option.map_some, Option.bind_none, eq_self, true_or, or_true, px_av_0, px_av_1, px_av_2, px_av_10, px_av_11, bn, wi_1, wi_2, wl_1, wl_21, wl_22, wr_1, wr_21, wr_22, Sum.elim_inl, Sum.elim_inr, ↓reduceIte, Nat.reduceLT, Nat.reduceLeDiff, not_false_eq_true, not_true_eq_false, Nat.reduceEqDiff, Nat.reduceAdd, reduceCtorEq, and_true, true_and, and_false, false_and, false_or, or_false, a1, k1, k2, hv, nI_add]
      · rw [wi_n (by omega)]; exact g4
      · rw [wi_n (by omega)]; exact g5
      · rw [wi_n (by omega)]; exact g6
      · show px_up ω.1 (X + 7) j _ (X + 7) i = _
        rw [up_s]
        by_cases q : i = j
        · subst q; rw [if_pos rfl]
        · rw [if_neg q]; exact g7 i (by omega)
    · obtain ⟨ω, rfl, g1, g2, g3, g4, g5, g6, g7⟩ := hI
      obtain ⟨-, -, ⟨-, -, zr5⟩, -⟩ := aL_fr g1 hX hXl
      refine ⟨ω, ?_, g1, g2, g3, c3, ⟨d12, g5, L, hL, g6, fun i hi => ?_⟩, c5, g4⟩
      · have a1 : nI 144 ≤ nI 144 := by decide
        dsimp only
        unfold F_1002_48
        simp only [xl0, xl7, zr5, gd_tt, oA_arr, px_obj_s, Option.bind_some, Option.map_some, Option.bind_none, eq_self, true_or, or_true, px_av_0, px_av_1, px_av_2, px_av_10, px_av_11, bn, wi_1, wi_2, wl_1, wl_21, wl_22, wr_1, wr_21, wr_22, Sum.elim_inl, Sum.elim_inr, ↓reduceIte, Nat.reduceLT, Nat.reduceLeDiff, not_false_eq_true, not_true_eq_false, Nat.reduceEqDiff, Nat.reduceAdd, reduceCtorEq, and_true, true_and, and_false, false_and, false_or, or_false, a1]
      · obtain ⟨y1, y2⟩ := h7 i hi
        have e : ∀ k, υ.1 (A + 7) k = σ.1 (A + 7) k := fun k => f2.1 _ _ (anS_f _ (by omega))
        have hlt : (L + 12 - i) % 12 < 12 := Nat.mod_lt _ (by omega)
        exact ⟨fun x hx => by rw [g7 _ (by omega), ← e]; exact y1 x hx, by rw [g7 _ (by omega), ← e]; exact y2⟩
  have hA2 : υ.1 A 2 = ln := hcυ.2.2.2.2.2
  obtain ⟨χ, hχ⟩ : ∃ χ, px_wi (px_wi (px_wi υ X 2 ln) X 3 (nI d)) X 4 (nI L) = χ := ⟨_, rfl⟩
  have wχ : fr (fun l j => l == X && (j == 2 || j == 3 || j == 4)) υ χ := by
    rw [← hχ]
    exact fr_wi (fr_wi (fr_wi (fr_rf _ _) _ (by simp)) _ (by simp)) _ (by simp)
  have nX : ∀ l, l ≠ X → ∀ j, (fun l j => l == X && (j == 2 || j == 3 || j == 4)) l j = false := fun l h j => by simp [h]
  obtain ⟨ψ, w1, w2, w3⟩ := lp χ (fr_tr f2 (fr_mono wχ (fun l j h => nX l (by have := anS_i h; omega) j))) (ct_fr wχ (nX _ (by omega)) (nX _ (by omega)) ctυ) (cru_fr wχ (nX _ (by omega)) (nX _ (by omega)) (nX _ (by omega)) (nX _ (by omega)) p3) (by
    rw [← hχ]
    show px_up (px_up (px_up υ.1 X 2 _) X 3 _) X 4 _ X 2 = _
    rw [up_s, if_neg (by decide), up_s, if_neg (by decide)]; exact px_up_s _ _ _ _) (by
    rw [← hχ]
    show px_up (px_up (px_up υ.1 X 2 _) X 3 _) X 4 _ X 3 = _
    rw [up_s, if_neg (by decide)]; exact px_up_s _ _ _ _) (by rw [← hχ]; exact px_up_s _ _ _ _)
  refine ⟨ψ, ?_, w2, w3⟩
  have hAX : A ≠ X := by omega
  simp only [f_1002, f_1002_30, xl0, al0, xl1, xr0, ar0, gd_tt, oA_arr, px_obj_s, Option.bind_some, Option.map_some, Option.bind_none, eq_self, true_or, or_true, px_av_0, px_av_1, px_av_2, px_av_10, px_av_11, bn, wi_1, wi_2, wl_1, wl_21, wl_22, wr_1, wr_21, wr_22, Sum.elim_inl, Sum.elim_inr, ↓reduceIte, Nat.reduceLT, Nat.reduceLeDiff, not_false_eq_true, not_true_eq_false, Nat.reduceEqDiff, Nat.reduceAdd, reduceCtorEq, and_true, true_and, and_false, false_and, false_or, or_false, q1, yr1, ar1ρ, yl3.1, p1, hA2, px_up_row hAX, h3, h4, hχ, w1]
/-! the model's copy -/
def rwS (lo : Nat) (l j : Nat) : Bool := l == 1 && (decide (lo ≤ j) && decide (j < lo + 1072))
theorem rwS_f {lo j : Nat} (h : j < lo ∨ lo + 1072 ≤ j) : rwS lo 1 j = false := by
  cases hq : rwS lo 1 j with
  | false => rfl
  | true =>
    simp only [rwS, Bool.and_eq_true, beq_iff_eq, decide_eq_true_eq] at hq
    omega
theorem anM_copy {υ : px_M} {o o' : Nat} (h : ∀ k, k < 1072 → υ.1 1 (o' + k) = τ.1 1 (o + k)) (hru : rul nr S C) (hm : anM τ o n B nr S C d G ln) : anM υ o' n B nr S C d G ln := by
  obtain ⟨m1, m2, m3, ⟨m4, m5, m6⟩, ⟨m7, m8, m9⟩, m10⟩ := hm
  have u6 := hru.1
  have u9 := hru.2.2.2.1
  refine ⟨m1, by rw [h 1 (by omega)]; exact m2, fun x hx => ?_, ⟨by rw [h 158 (by omega)]; exact m4, fun r hr => ⟨?_, ?_⟩, fun i hi => ?_⟩, ⟨m7, by rw [h 13 (by omega)]; exact m8, fun i hi j hj => ?_⟩, ?_⟩
  · rw [Nat.add_assoc, h (2 + x) (by omega), ← Nat.add_assoc]; exact m3 x hx
  · rw [Nat.add_assoc, h (159 + r) (by omega), ← Nat.add_assoc]; exact (m5 r hr).1
  · rw [Nat.add_assoc, h (165 + r) (by omega), ← Nat.add_assoc]; exact (m5 r hr).2
  · rw [Nat.add_assoc, h (172 + i) (by omega), ← Nat.add_assoc]; exact m6 i hi
  · have e := h (14 + 12 * (d - 1 - i) + j) (by omega)
    rw [show o' + (14 + 12 * (d - 1 - i) + j) = o' + 14 + 12 * (d - 1 - i) + j by omega, show o + (14 + 12 * (d - 1 - i) + j) = o + 14 + 12 * (d - 1 - i) + j by omega] at e
    rw [e]; exact m9 i hi j hj
  · have e := h 0 (by omega)
    rw [Nat.add_zero, Nat.add_zero] at e
    rw [e]; exact m10
theorem e_image131 (hR : mR τ.2.2) {i : Nat} (hi : i < 2) : ∃ b, f_131_20 tT 0 (nI i) (nI 0) τ = some b ∧ ∃ υ, b = (nI 0, υ) ∧ fr (fun l j => rwS (1072 * (i + 1)) l j || (l == 2 && j == i)) τ υ ∧ υ.1 2 i = nI 1 ∧ ∀ k, k < 1072 → υ.1 1 (1072 * (i + 1) + k) = τ.1 1 (0 + k) := by
  unfold f_131_20
  refine lp_for (F := fun s : Int32 × px_M => F_131_20 tT 0 (nI i) s.1 s.2) (fun j q => ∃ ρ, q = (nI j, ρ) ∧ fr (rwS (1072 * (i + 1))) τ ρ ∧ ∀ k, k < j → ρ.1 1 (1072 * (i + 1) + k) = τ.1 1 (0 + k)) _ 1072 (fun j q hj hI => ?_) (fun q hI => ?_) 0 (nI 0, τ) (by omega) ⟨τ, rfl, fr_rf _ _, fun k hk => by omega⟩
  · obtain ⟨ρ, rfl, g1, g2⟩ := hI
    have hRρ := mR_fr g1 hR
    have a1 : ¬ nI 1072 ≤ nI j := by rw [nI_leI (by omega) (by omega)]; omega
    have c1 : vp_in (nI j) 3216 := (vp_in_eq (by omega)).mpr (by omega)
    have c2 : (nI j).toNatClampNeg = j := nI_clamp (by omega)
    have c3 : vp_in (nI (1072 * (i + 1) + j)) 3216 := (vp_in_eq (by omega)).mpr (by omega)
    have c4 : (nI (1072 * (i + 1) + j)).toNatClampNeg = 1072 * (i + 1) + j := nI_clamp (by omega)
    have v : ρ.1 1 j = τ.1 1 j := g1.1 1 j (rwS_f (by omega))
    refine ⟨(nI (j + 1), px_wi ρ 1 (1072 * (i + 1) + j) (τ.1 1 j)), ?_, _, rfl, fr_wi g1 _ (by simp [rwS]; omega), fun k hk => ?_⟩
    · dsimp only
      unfold F_131_20
      simp only [a1, la_0, la_1, rm_0_1 hRρ, gd_tt, oA_arr, px_obj_s, Option.bind_some, Option.map_some, Option.bind_none, eq_self, true_or, or_true, px_av_0, px_av_1, px_av_2, px_av_10, px_av_11, bn, wi_1, wi_2, wl_1, wl_21, wl_22, wr_1, wr_21, wr_22, Sum.elim_inl, Sum.elim_inr, ↓reduceIte, Nat.reduceLT, Nat.reduceLeDiff, not_false_eq_true, not_true_eq_false, Nat.reduceEqDiff, Nat.reduceAdd, reduceCtorEq, and_true, true_and, and_false, false_and, false_or, or_false, c1, c2, nI_add, pk_mul, c3, c4, v]
    · show px_up ρ.1 1 (1072 * (i + 1) + j) _ 1 (1072 * (i + 1) + k) = _
      rw [up_s]
      by_cases q : k = j
      · subst q; rw [if_pos rfl, Nat.zero_add]
      · rw [if_neg (by omega)]; exact g2 k (by omega)
  · obtain ⟨ρ, rfl, g1, g2⟩ := hI
    have hRρ := mR_fr g1 hR
    have c1 : vp_in (nI i) 2 := (vp_in_eq (by omega)).mpr (by omega)
    have c2 : (nI i).toNatClampNeg = i := nI_clamp (by omega)
    refine ⟨(nI 0, px_wi ρ 2 i (nI 1)), ?_, _, rfl, fr_wi (fr_mono g1 (fun l j h => by simp only [Bool.or_eq_false_iff] at h; exact h.1)) _ (by simp), wi_s _ _ _ _, fun k hk => by rw [wi_n (by decide)]; exact g2 k hk⟩
    have a1 : nI 1072 ≤ nI 1072 := by decide
    dsimp only
    unfold F_131_20
    simp only [a1, la_0, la_2, rm_0_2 hRρ, gd_tt, oA_arr, px_obj_s, Option.bind_some, Option.map_some, Option.bind_none, eq_self, true_or, or_true, px_av_0, px_av_1, px_av_2, px_av_10, px_av_11, bn, wi_1, wi_2, wl_1, wl_21, wl_22, wr_1, wr_21, wr_22, Sum.elim_inl, Sum.elim_inr, ↓reduceIte, Nat.reduceLT, Nat.reduceLeDiff, not_false_eq_true, not_true_eq_false, Nat.reduceEqDiff, Nat.reduceAdd, reduceCtorEq, and_true, true_and, and_false, false_and, false_or, or_false, c1, c2]
theorem e_restore132 (hR : mR τ.2.2) {i : Nat} (hi : i < 2) : ∃ b, f_132_32 tT 0 (nI i) (nI 0) τ = some b ∧ ∃ υ, b = (nI 0, υ) ∧ fr (rwS 0) τ υ ∧ ∀ k, k < 1072 → υ.1 1 (0 + k) = τ.1 1 (1072 * (i + 1) + k) := by
  unfold f_132_32
  refine lp_for (F := fun s : Int32 × px_M => F_132_32 tT 0 (nI i) s.1 s.2) (fun j q => ∃ ρ, q = (nI j, ρ) ∧ fr (rwS 0) τ ρ ∧ ∀ k, k < j → ρ.1 1 (0 + k) = τ.1 1 (1072 * (i + 1) + k)) _ 1072 (fun j q hj hI => ?_) (fun q hI => ?_) 0 (nI 0, τ) (by omega) ⟨τ, rfl, fr_rf _ _, fun k hk => by omega⟩
  · obtain ⟨ρ, rfl, g1, g2⟩ := hI
    have hRρ := mR_fr g1 hR
    have a1 : ¬ nI 1072 ≤ nI j := by rw [nI_leI (by omega) (by omega)]; omega
    have c1 : vp_in (nI j) 3216 := (vp_in_eq (by omega)).mpr (by omega)
    have c2 : (nI j).toNatClampNeg = j := nI_clamp (by omega)
    have c3 : vp_in (nI (1072 * (i + 1) + j)) 3216 := (vp_in_eq (by omega)).mpr (by omega)
    have c4 : (nI (1072 * (i + 1) + j)).toNatClampNeg = 1072 * (i + 1) + j := nI_clamp (by omega)
    have v : ρ.1 1 (1072 * (i + 1) + j) = τ.1 1 (1072 * (i + 1) + j) := g1.1 1 _ (rwS_f (by omega))
    refine ⟨(nI (j + 1), px_wi ρ 1 j (τ.1 1 (1072 * (i + 1) + j))), ?_, _, rfl, fr_wi g1 _ (by simp [rwS]; omega), fun k hk => ?_⟩
    · dsimp only
      unfold F_132_32
      simp only [a1, la_0, la_1, rm_0_1 hRρ, gd_tt, oA_arr, px_obj_s, Option.bind_some, Option.map_some, Option.bind_none, eq_self, true_or, or_true, px_av_0, px_av_1, px_av_2, px_av_10, px_av_11, bn, wi_1, wi_2, wl_1, wl_21, wl_22, wr_1, wr_21, wr_22, Sum.elim_inl, Sum.elim_inr, ↓reduceIte, Nat.reduceLT, Nat.reduceLeDiff, not_false_eq_true, not_true_eq_false, Nat.reduceEqDiff, Nat.reduceAdd, reduceCtorEq, and_true, true_and, and_false, false_and, false_or, or_false, nI_add, pk_mul, c1, c2, c3, c4, v]
    · rw [Nat.zero_add]
      show px_up ρ.1 1 j _ 1 k = _
      rw [up_s]
      by_cases q : k = j
      · subst q; rw [if_pos rfl]
      · rw [if_neg q]
        have := g2 k (by omega)
        rw [Nat.zero_add] at this
        exact this
  · obtain ⟨ρ, rfl, g1, g2⟩ := hI
    refine ⟨(nI 0, ρ), ?_, ρ, rfl, g1, g2⟩
    have a1 : nI 1072 ≤ nI 1072 := by decide
    dsimp only
    unfold F_132_32
    simp only [a1, ↓reduceIte]
end
