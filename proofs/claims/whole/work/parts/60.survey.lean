/-! the council: what holds, what would still hold -/
def CS (l _ : Nat) : Bool := decide (210 ≤ l) && decide (l ≤ 220)
theorem CS_f {l j : Nat} (h : CS l j = false) : l < 210 ∨ 220 < l := by
  simp only [CS, Bool.and_eq_false_iff, decide_eq_false_iff_not] at h; omega
theorem CS_t {l : Nat} (j : Nat) (h1 : 210 ≤ l) (h2 : l ≤ 220) : CS l j = true := by simp [CS, h1, h2]
theorem CS_n {l : Nat} (j : Nat) (h1 : l < 210 ∨ 220 < l) : CS l j = false := by
  simp only [CS, Bool.and_eq_false_iff, decide_eq_false_iff_not]; omega
theorem CS_SN : ∀ l j, CS l j = false → SNw l j = false := fun l j h => by
  have h1 := CS_f h
  cases hq : SNw l j with
  | false => rfl
  | true =>
    exfalso
    simp only [SNw, SP, Bool.or_eq_true, Bool.and_eq_true, beq_iff_eq] at hq
    omega
def Z8 (l _ : Nat) : Bool := l == 218 || l == 219
theorem CS_Z8 : ∀ l j, CS l j = false → Z8 l j = false := fun l j h => by
  have h1 := CS_f h
  cases hq : Z8 l j with
  | false => rfl
  | true =>
    exfalso
    simp only [Z8, Bool.or_eq_true, beq_iff_eq] at hq
    omega
theorem CS_on8 : ∀ l j, CS l j = false → on 218 l j = false := fun l j h => by
  have h1 := CS_f h
  simp only [on, beq_eq_false_iff_ne]; omega
def SN8 (l j : Nat) : Bool := SNw l j || l == 218
theorem SN8_SN : ∀ l j, SN8 l j = false → SNw l j = false := fun l j h => by
  simp only [SN8, Bool.or_eq_false_iff] at h; exact h.1
theorem SN8_8 : ∀ l j, SN8 l j = false → on 218 l j = false := fun l j h => by
  simp only [SN8, Bool.or_eq_false_iff] at h; exact h.2
theorem CS_SN8 : ∀ l j, CS l j = false → SN8 l j = false := fun l j h => by
  simp only [SN8, Bool.or_eq_false_iff]; exact ⟨CS_SN l j h, CS_on8 l j h⟩
def outT (T : Nat) : Prop := T + 1 < 210 ∨ 220 < T
/-- the houses of which a rule holds -/
noncomputable def hset (n : Nat) (B S C : Nat → Nat) (r : Nat) : Nat := bs (fun h => rhr n B S C r h) n
def hol (σ : px_M) (nr n : Nat) (B S C : Nat → Nat) : Prop := ∀ r, r < nr → σ.1 219 r = nI (hset n B S C r)
section
variable {σ τ : px_M} {u R T n n' nr : Nat} {B B' S C : Nat → Nat}
theorem cru_CS (hR3 : R + 3 < 210) (h : fr CS σ τ) (hc : cru σ R nr S C) : cru τ R nr S C := cru_fr h (fun j => CS_n j (by omega)) (fun j => CS_n j (by omega)) (fun j => CS_n j (by omega)) (fun j => CS_n j (by omega)) hc
theorem ct_CS (hT : outT T) (h : fr CS σ τ) (hc : ct σ T n B) : ct τ T n B := ct_fr h (fun j => CS_n j (by unfold outT at hT; omega)) (fun j => CS_n j (by unfold outT at hT; omega)) hc
theorem ok_out (hT : outT T) : ok4 T := by unfold outT at hT; unfold ok4; omega
theorem ok_216 : ok4 216 := by unfold ok4; decide
/-- what stays while rules are asked -/
def cst (σ : px_M) (R T nr : Nat) (S C : Nat → Nat) (n : Nat) (B : Nat → Nat) : Prop := cR σ.2.2 ∧ (σ.2.2 210 5 = some R ∧ σ.2.2 210 6 = some T) ∧ R + 3 < 210 ∧ outT T ∧ rul nr S C ∧ cru σ R nr S C ∧ ct σ T n B
theorem cst_fr {Q : Nat → Nat → Bool} (h : fr Q σ τ) (hQ : ∀ l j, CS l j = false → Q l j = false) (h5 : Q 210 5 = false) (h6 : Q 210 6 = false) (hc : cst σ R T nr S C n B) : cst τ R T nr S C n B := by
  obtain ⟨c1, ⟨c2, c3⟩, c4, c5, c6, c7, c8⟩ := hc
  have h' := fr_mono h hQ
  exact ⟨cR_fr h c1, ⟨by rw [h.2.2 210 5 (Or.inl h5)]; exact c2, by rw [h.2.2 210 6 (Or.inl h6)]; exact c3⟩, c4, c5, c6, cru_CS c4 h' c7, ct_CS c5 h' c8⟩
theorem cst_SN (h : fr SNw σ τ) (hc : cst σ R T nr S C n B) : cst τ R T nr S C n B := cst_fr h CS_SN rfl rfl hc
theorem cst_8 (h : fr (on 218) σ τ) (hc : cst σ R T nr S C n B) : cst τ R T nr S C n B := cst_fr h CS_on8 rfl rfl hc
theorem cst_Z8 (h : fr Z8 σ τ) (hc : cst σ R T nr S C n B) : cst τ R T nr S C n B := cst_fr h CS_Z8 rfl rfl hc
theorem cst_SN8 (h : fr SN8 σ τ) (hc : cst σ R T nr S C n B) : cst τ R T nr S C n B := cst_fr h CS_SN8 rfl rfl hc
/-- what is asked: a town, and what is known of it -/
def askd (σ : px_M) (u n : Nat) (B : Nat → Nat) (k : Nat) : Prop := σ.2.2 210 7 = some u ∧ ok4 u ∧ ct σ u n B ∧ k < 512 ∧ σ.1 210 8 = nI k ∧ knw σ n B (fun w => k.testBit w = true)
theorem ask_fr {Q : Nat → Nat → Bool} {k : Nat} (h : fr Q σ τ) (h7 : Q 210 7 = false) (h8 : Q 210 8 = false) (h20 : ∀ j, Q 220 j = false) (hu : ∀ j, Q u j = false) (hu1 : ∀ j, Q (u + 1) j = false) (ha : askd σ u n B k) : askd τ u n B k := by
  obtain ⟨a1, a2, a3, a4, a5, a6⟩ := ha
  exact ⟨by rw [h.2.2 210 7 (Or.inl h7)]; exact a1, a2, ct_fr h hu hu1 a3, a4, by rw [h.1 210 8 h8]; exact a5, fun w hw9 hp x hx => by rw [h.1 220 _ (h20 _)]; exact a6 w hw9 hp x hx⟩
theorem ask_8 {k : Nat} (h : fr (on 218) σ τ) (ha : askd σ u n B k) : askd τ u n B k := by
  have hu := ha.2.1
  obtain ⟨-, -, -, -, -, -, -, -, h9, h10, -⟩ := hu
  exact ask_fr h rfl rfl (fun _ => rfl) (fun j => by simp [on, h9]) (fun j => by simp only [on, beq_eq_false_iff_ne]; exact h10) ha
theorem ask_Z8 {k : Nat} (h : fr Z8 σ τ) (ha : askd σ u n B k) : askd τ u n B k := by
  have hu := ha.2.1
  obtain ⟨-, -, -, -, -, -, -, -, h9, h10, h11, h12⟩ := hu
  exact ask_fr h rfl rfl (fun _ => rfl) (fun j => by simp [Z8, h9, h11]) (fun j => by simp only [Z8, Bool.or_eq_false_iff, beq_eq_false_iff_ne]; exact ⟨h10, h12⟩) ha
/-- a rule's words found -/
theorem c_findR (hs : cst σ R T nr S C n B) {k : Nat} (ha : askd σ u n' B' k) {r : Nat} (hr : r < nr) : ∃ υ, f_2010 tT σ 210 (nI (us S C r)) = some υ ∧ fr SNw σ υ ∧ askd υ u n' B' (k ||| us S C r) := by
  obtain ⟨c1, -, -, -, c6, -, -⟩ := hs
  obtain ⟨a1, a2, a3, a4, a5, a6⟩ := ha
  have hU : us S C r < 512 := uset_lt (c6.2.2.2.2 r hr)
  obtain ⟨υ, q1, q2, q3, q4⟩ := c_find c1 a1 a2 a3 a4 hU a5 a6
  exact ⟨υ, q1, q2, by rw [q2.2.2 210 7 (Or.inl rfl)]; exact a1, a2, ct_SN a2 q2 a3, or_512 a4 hU, q3, q4⟩
theorem c_standsR (hs : cst σ R T nr S C n B) {k : Nat} (ha : askd σ u n' B' k) {r h : Nat} (hr : r < nr) (hU : ∀ w, (us S C r).testBit w = true → k.testBit w = true) (hh : h < n') : ∃ υ, f_2013 tT σ 210 (nI r) (nI h) = some (mb (rhr n' B' S C r h), υ) ∧ fr (on 218) σ υ := by
  obtain ⟨c1, ⟨c2, -⟩, c4, -, c6, c7, -⟩ := hs
  obtain ⟨a1, a2, a3, a4, a5, a6⟩ := ha
  exact c_stands c1 c2 (by omega) c6 c7 a3.2.2.2.1.1 a6 hU hr hh
theorem or_l {a b w : Nat} (h : b.testBit w = true) : (a ||| b).testBit w = true := by rw [Nat.testBit_or, h, Bool.or_true]
theorem hset_S (r j : Nat) : bs (fun h => rhr n B S C r h) (j + 1) = if rhr n B S C r j = true then bs (fun h => rhr n B S C r h) j ||| 2 ^ j else bs (fun h => rhr n B S C r h) j := by
  rw [bs_S]
  split <;> simp
theorem c_surv62 (hs : cst σ R T nr S C n B) {k : Nat} (ha : askd σ T n B k) {r : Nat} (hr : r < nr) (hU : ∀ w, (us S C r).testBit w = true → k.testBit w = true) (h0 : σ.1 219 r = nI 0) : ∃ b, f_2004_62 tT 210 (nI r) (nI 0) σ = some b ∧ ∃ υ, b = .inl (nI (r + 1), υ) ∧ fr Z8 σ υ ∧ υ.1 219 r = nI (hset n B S C r) ∧ ∀ j, j ≠ r → υ.1 219 j = σ.1 219 j := by
  have hn := hs.2.2.2.2.2.2.2.2.2.1.1
  have u6 := hs.2.2.2.2.1.1
  unfold f_2004_62
  refine lp_for (F := fun s : Int32 × px_M => F_2004_62 tT 210 (nI r) s.1 s.2) (fun j q => ∃ ρ, q = (nI j, ρ) ∧ fr Z8 σ ρ ∧ ρ.1 219 r = nI (bs (fun h => rhr n B S C r h) j) ∧ ∀ i, i ≠ r → ρ.1 219 i = σ.1 219 i) (fun b => ∃ υ, b = .inl (nI (r + 1), υ) ∧ fr Z8 σ υ ∧ υ.1 219 r = nI (hset n B S C r) ∧ ∀ j, j ≠ r → υ.1 219 j = σ.1 219 j) n (fun j q hj hI => ?_) (fun q hI => ?_) 0 (nI 0, σ) (by omega) ⟨σ, rfl, fr_rf _ _, h0, fun _ _ => rfl⟩
  · obtain ⟨ρ, rfl, g1, g2, g3⟩ := hI
    have hsρ := cst_Z8 g1 hs
    obtain ⟨υ, q1, q2⟩ := c_standsR hsρ (ask_Z8 g1 ha) hr hU hj
    obtain ⟨c1, ⟨c2, c3⟩, c4, c5, c6, c7, c8⟩ := id hsρ
    have hR' := cR_fr q2 c1
    have a1 : ¬ nI n ≤ nI j := by rw [nI_leI (by omega) (by omega)]; omega
    have d1 : vp_in (nI r) 6 := (vp_in_eq (by omega)).mpr (by omega)
    have d2 : (nI r).toNatClampNeg = r := nI_clamp (by omega)
    have d3 : υ.1 219 r = nI (bs (fun h => rhr n B S C r h) j) := by rw [q2.1 219 r rfl]; exact g2
    have q2' : fr Z8 ρ υ := fr_mono q2 (fun l j h => by simp only [Z8, Bool.or_eq_false_iff] at h; exact h.1)
    cases hb : rhr n B S C r j with
    | false =>
      rw [hb] at q1
      refine ⟨(nI (j + 1), υ), ?_, υ, rfl, fr_tr g1 q2', ?_, fun i hi => ?_⟩
      · dsimp only
        unfold F_2004_62 f_2004_94
        simp only [la_210, c3, c8.1, c8.2.2.2.2.1, a1, gd_tt, oA_arr, px_obj_s, Option.bind_some, Option.map_some, Option.bind_none, eq_self, true_or, or_true, px_av_0, px_av_1, px_av_2, px_av_10, px_av_11, bn, wi_1, wi_2, wl_1, wl_21, wl_22, wr_1, wr_21, wr_22, Sum.elim_inl, Sum.elim_inr, ↓reduceIte, Nat.reduceLT, Nat.reduceLeDiff, not_false_eq_true, not_true_eq_false, Nat.reduceEqDiff, Nat.reduceAdd, reduceCtorEq, and_true, true_and, and_false, false_and, false_or, or_false, q1, mb_f0, nI_add]
      · rw [hset_S, if_neg (by simp [hb])]; exact d3
      · rw [q2.1 219 i rfl]; exact g3 i hi
    | true =>
      rw [hb] at q1
      have hl : bs (fun h => rhr n B S C r h) j < 2048 := bs_lt (by omega)
      have z : ¬ nI 1 = nI 0 := by decide
      refine ⟨(nI (j + 1), px_wi υ 219 r (nI (bs (fun h => rhr n B S C r h) j ||| 2 ^ j))), ?_, _, rfl, fr_wi (fr_tr g1 q2') _ rfl, ?_, fun i hi => ?_⟩
      · dsimp only
        unfold F_2004_62 f_2004_94
        simp only [la_210, la_219, c3, c8.1, c8.2.2.2.2.1, a1, rc_210_3 hR', gd_tt, oA_arr, px_obj_s, Option.bind_some, Option.map_some, Option.bind_none, eq_self, true_or, or_true, px_av_0, px_av_1, px_av_2, px_av_10, px_av_11, bn, wi_1, wi_2, wl_1, wl_21, wl_22, wr_1, wr_21, wr_22, Sum.elim_inl, Sum.elim_inr, ↓reduceIte, Nat.reduceLT, Nat.reduceLeDiff, not_false_eq_true, not_true_eq_false, Nat.reduceEqDiff, Nat.reduceAdd, reduceCtorEq, and_true, true_and, and_false, false_and, false_or, or_false, q1, mb_t1, z, d1, d2, d3, nI_add, ni_1s (show j < 31 by omega), fa_or]
      · rw [hset_S, if_pos hb]; exact wi_s _ _ _ _
      · show px_up υ.1 219 r _ 219 i = _
        rw [up_s, if_neg hi, q2.1 219 i rfl]; exact g3 i hi
  · obtain ⟨ρ, rfl, g1, g2, g3⟩ := hI
    obtain ⟨c1, ⟨c2, c3⟩, c4, c5, c6, c7, c8⟩ := cst_Z8 g1 hs
    refine ⟨.inl (nI (r + 1), ρ), ?_, ρ, rfl, g1, g2, g3⟩
    have a1 : nI n ≤ nI n := by rw [nI_leI (by omega) (by omega)]; omega
    dsimp only
    unfold F_2004_62
    simp only [la_210, c3, c8.1, c8.2.2.2.2.1, a1, gd_tt, oA_arr, px_obj_s, Option.bind_some, Option.map_some, Option.bind_none, eq_self, true_or, or_true, px_av_0, px_av_1, px_av_2, px_av_10, px_av_11, bn, wi_1, wi_2, wl_1, wl_21, wl_22, wr_1, wr_21, wr_22, Sum.elim_inl, Sum.elim_inr, ↓reduceIte, Nat.reduceLT, Nat.reduceLeDiff, not_false_eq_true, not_true_eq_false, Nat.reduceEqDiff, Nat.reduceAdd, reduceCtorEq, and_true, true_and, and_false, false_and, false_or, or_false, nI_add]
theorem c_surv23 (hs : cst σ R T nr S C n B) (ha : askd σ T n B 0) : ∃ υ, f_2004_23 tT 210 (nI 0) σ = some υ ∧ fr CS σ υ ∧ cst υ R T nr S C n B ∧ υ.1 210 9 = σ.1 210 9 ∧ hol υ nr n B S C := by
  have u6 := hs.2.2.2.2.1.1
  unfold f_2004_23
  refine lp_for (F := fun s : Int32 × px_M => F_2004_23 tT 210 s.1 s.2) (fun r q => ∃ ρ k, q = (nI r, ρ) ∧ fr CS σ ρ ∧ cst ρ R T nr S C n B ∧ askd ρ T n B k ∧ ρ.1 210 9 = σ.1 210 9 ∧ ∀ i, i < r → ρ.1 219 i = nI (hset n B S C i)) (fun υ => fr CS σ υ ∧ cst υ R T nr S C n B ∧ υ.1 210 9 = σ.1 210 9 ∧ hol υ nr n B S C) nr (fun r q hr hI => ?_) (fun q hI => ?_) 0 (nI 0, σ) (by omega) ⟨σ, 0, rfl, fr_rf _ _, hs, ha, rfl, fun i hi => by omega⟩
  · obtain ⟨ρ, k, rfl, g1, g2, g3, g4, g5⟩ := hI
    obtain ⟨υ, q1, q2, q3⟩ := c_findR g2 g3 hr
    obtain ⟨c1, ⟨c2, c3⟩, c4, c5, c6, c7, c8⟩ := id g2
    obtain ⟨⟨l0, l1, l2, l3⟩, ⟨f1, f2, f3⟩, d0, -, d2, -, -⟩ := c7
    have s2 := cst_SN q2 g2
    have w1 : fr Z8 υ (px_wi υ 219 r (nI 0)) := fr_wi (fr_rf _ _) _ rfl
    obtain ⟨b, p1, ω, rfl, p2, p3, p4⟩ := c_surv62 (cst_Z8 w1 s2) (ask_Z8 w1 q3) hr (fun w h => or_l h) (wi_s _ _ _ _)
    have t1 : fr CS σ ω := fr_tr g1 (fr_tr (fr_mono q2 CS_SN) (fr_tr (fr_mono w1 CS_Z8) (fr_mono p2 CS_Z8)))
    refine ⟨(nI (r + 1), ω), ?_, ω, k ||| us S C r, rfl, t1, cst_Z8 p2 (cst_Z8 w1 s2), ask_Z8 p2 (ask_Z8 w1 q3), ?_, fun i hi => ?_⟩
    · have a1 : ¬ nI nr ≤ nI r := by rw [nI_leI (by omega) (by omega)]; omega
      have a2 : ¬ nI 6 ≤ nI r := by rw [nI_leI (by omega) (by omega)]; omega
      have e1 : vp_in (nI r) 6 := (vp_in_eq (by omega)).mpr (by omega)
      have e2 : (nI r).toNatClampNeg = r := nI_clamp (by omega)
      dsimp only
      unfold F_2004_23
      simp only [la_210, la_219, c2, l0, d0, a1, a2, f2, l2, rc_210_3 s2.1, gd_tt, oA_arr, px_obj_s, Option.bind_some, Option.map_some, Option.bind_none, eq_self, true_or, or_true, px_av_0, px_av_1, px_av_2, px_av_10, px_av_11, bn, wi_1, wi_2, wl_1, wl_21, wl_22, wr_1, wr_21, wr_22, Sum.elim_inl, Sum.elim_inr, ↓reduceIte, Nat.reduceLT, Nat.reduceLeDiff, not_false_eq_true, not_true_eq_false, Nat.reduceEqDiff, Nat.reduceAdd, reduceCtorEq, and_true, true_and, and_false, false_and, false_or, or_false, e1, e2, d2 r hr, q1, p1]
    · rw [p2.1 210 9 rfl]
      rw [wi_n (by decide), q2.1 210 9 rfl]; exact g4
    · by_cases hir : i = r
      · subst hir; exact p3
      · rw [p4 i hir]
        show px_up υ.1 219 r _ 219 i = _
        rw [up_s, if_neg hir, q2.1 219 i rfl]; exact g5 i (by omega)
  · obtain ⟨ρ, k, rfl, g1, g2, g3, g4, g5⟩ := hI
    obtain ⟨c1, ⟨c2, c3⟩, c4, c5, c6, c7, c8⟩ := id g2
    obtain ⟨⟨l0, l1, l2, l3⟩, ⟨f1, f2, f3⟩, d0, -, d2, -, -⟩ := c7
    refine ⟨ρ, ?_, g1, g2, g4, g5⟩
    have a1 : nI nr ≤ nI nr := by rw [nI_leI (by omega) (by omega)]; omega
    dsimp only
    unfold F_2004_23
    simp only [la_210, c2, l0, d0, a1, gd_tt, oA_arr, px_obj_s, Option.bind_some, Option.map_some, Option.bind_none, eq_self, true_or, or_true, px_av_0, px_av_1, px_av_2, px_av_10, px_av_11, bn, wi_1, wi_2, wl_1, wl_21, wl_22, wr_1, wr_21, wr_22, Sum.elim_inl, Sum.elim_inr, ↓reduceIte, Nat.reduceLT, Nat.reduceLeDiff, not_false_eq_true, not_true_eq_false, Nat.reduceEqDiff, Nat.reduceAdd, reduceCtorEq, and_true, true_and, and_false, false_and, false_or, or_false]
/-- the council, as it has come together -/
def cnv (σ : px_M) (R T nr : Nat) (S C : Nat → Nat) (n : Nat) (B : Nat → Nat) : Prop := cst σ R T nr S C n B ∧ (σ.1 210 9 = nI 0 ∨ (σ.1 210 9 = nI 1 ∧ hol σ nr n B S C))
theorem c_survey (hc : cnv σ R T nr S C n B) : ∃ υ, f_2004 tT σ 210 = some υ ∧ fr CS σ υ ∧ cst υ R T nr S C n B ∧ υ.1 210 9 = nI 1 ∧ hol υ nr n B S C := by
  obtain ⟨hs, h9⟩ := hc
  rcases h9 with h9 | ⟨h9, hh⟩
  · obtain ⟨ρ, hρ⟩ : ∃ ρ, px_wi (px_wr (px_wi σ 210 9 (nI 1)) 210 7 (some T)) 210 8 (nI 0) = ρ := ⟨_, rfl⟩
    have g1 : fr CS σ ρ := by rw [← hρ]; exact fr_wi (fr_wr (fr_wi (fr_rf _ _) _ rfl) _ rfl rfl) _ rfl
    obtain ⟨c1, ⟨c2, c3⟩, c4, c5, c6, c7, c8⟩ := id hs
    have r5 : ρ.2.2 210 5 = some R := by rw [← hρ, wi_2, wr_22, px_up_n (by decide), wi_2]; exact c2
    have r6 : ρ.2.2 210 6 = some T := by rw [← hρ, wi_2, wr_22, px_up_n (by decide), wi_2]; exact c3
    have r7 : ρ.2.2 210 7 = some T := by rw [← hρ, wi_2, wr_22]; exact px_up_s _ _ _ _
    have v8 : ρ.1 210 8 = nI 0 := by rw [← hρ]; exact wi_s _ _ _ _
    have v9 : ρ.1 210 9 = nI 1 := by rw [← hρ, wi_1, px_up_n (by decide), wr_1]; exact wi_s _ _ _ _
    have hs' : cst ρ R T nr S C n B := ⟨cR_fr g1 c1, ⟨r5, r6⟩, c4, c5, c6, cru_CS c4 g1 c7, ct_CS c5 g1 c8⟩
    obtain ⟨υ, q1, q2, q3, q4, q5⟩ := c_surv23 hs' ⟨r7, ok_out c5, ct_CS c5 g1 c8, by decide, v8, fun w _ hp => by simp at hp⟩
    refine ⟨υ, ?_, fr_tr g1 q2, q3, q4.trans v9, q5⟩
    simp only [f_2004, f_2009, la_210, gd_tt, oA_arr, px_obj_s, Option.bind_some, Option.map_some, Option.bind_none, eq_self, true_or, or_true, px_av_0, px_av_1, px_av_2, px_av_10, px_av_11, bn, wi_1, wi_2, wl_1, wl_21, wl_22, wr_1, wr_21, wr_22, Sum.elim_inl, Sum.elim_inr, ↓reduceIte, Nat.reduceLT, Nat.reduceLeDiff, not_false_eq_true, not_true_eq_false, Nat.reduceEqDiff, Nat.reduceAdd, reduceCtorEq, and_true, true_and, and_false, false_and, false_or, or_false, h9, c3, hρ, q1]
  · refine ⟨σ, ?_, fr_rf _ _, hs, h9, hh⟩
    have z : ¬ nI 1 = nI 0 := by decide
    simp only [f_2004, la_210, gd_tt, oA_arr, px_obj_s, Option.bind_some, Option.map_some, Option.bind_none, eq_self, true_or, or_true, px_av_0, px_av_1, px_av_2, px_av_10, px_av_11, bn, wi_1, wi_2, wl_1, wl_21, wl_22, wr_1, wr_21, wr_22, Sum.elim_inl, Sum.elim_inr, ↓reduceIte, Nat.reduceLT, Nat.reduceLeDiff, not_false_eq_true, not_true_eq_false, Nat.reduceEqDiff, Nat.reduceAdd, reduceCtorEq, and_true, true_and, and_false, false_and, false_or, or_false, h9, z]
end
