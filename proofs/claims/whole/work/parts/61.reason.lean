/-! the council: what is against a door, against a house -/
def kpb (nr n : Nat) (f g : Nat → Nat → Bool) : Bool := decide (∀ r, r < nr → ∀ h, h < n → f r h = true → g r h = true)
def stb (nr n : Nat) (g : Nat → Nat → Bool) : Bool := decide (∀ r, r < nr → g r n = true)
section
variable {σ τ : px_M} {u R T n n' nr : Nat} {B B' S C : Nat → Nat}
theorem on8_SN8 {σ τ : px_M} (h : fr (on 218) σ τ) : fr SN8 σ τ := fr_mono h SN8_8
theorem SN_SN8 {σ τ : px_M} (h : fr SNw σ τ) : fr SN8 σ τ := fr_mono h SN8_SN
theorem hset_tb (r : Nat) {h : Nat} (hh : h < n) : (hset n B S C r).testBit h = rhr n B S C r h := by
  unfold hset; rw [bs_tb]; simp [hh]
theorem hset_lt (hn : n ≤ 11) (r : Nat) : hset n B S C r < 2048 := bs_lt hn
theorem c_keep34 (hs : cst σ R T nr S C n B) (hh : hol σ nr n B S C) (hnn : n ≤ n') {k : Nat} (ha : askd σ u n' B' k) {r : Nat} (hr : r < nr) (hU : ∀ w, (us S C r).testBit w = true → k.testBit w = true) : ∃ b, f_2008_34 tT 210 (nI r) (nI 0) σ = some b ∧ ((∃ υ, b = .inl (nI (r + 1), υ) ∧ fr (on 218) σ υ ∧ ∀ h, h < n → rhr n B S C r h = true → rhr n' B' S C r h = true) ∨ (∃ υ, b = .inr (nI 0, υ) ∧ fr (on 218) σ υ ∧ ∃ h, h < n ∧ rhr n B S C r h = true ∧ rhr n' B' S C r h = false)) := by
  have hn := hs.2.2.2.2.2.2.2.2.2.1.1
  have u6 := hs.2.2.2.2.1.1
  unfold f_2008_34
  refine lp_rel (F := fun s : Int32 × px_M => F_2008_34 tT 210 (nI r) s.1 s.2) (fun j q => ∃ ρ, q = (nI j, ρ) ∧ fr (on 218) σ ρ ∧ ∀ h, h < j → rhr n B S C r h = true → rhr n' B' S C r h = true) _ n (fun j q hj hI => ?_) 0 (nI 0, σ) (by omega) ⟨σ, rfl, fr_rf _ _, fun h q => by omega⟩
  obtain ⟨ρ, rfl, g1, g2⟩ := hI
  have hsρ := cst_8 g1 hs
  obtain ⟨c1, ⟨c2, c3⟩, c4, c5, c6, c7, c8⟩ := id hsρ
  by_cases hjn : j = n
  · subst hjn
    refine Or.inr ⟨.inl (nI (r + 1), ρ), ?_, Or.inl ⟨ρ, rfl, g1, g2⟩⟩
    have a1 : nI j ≤ nI j := by rw [nI_leI (by omega) (by omega)]; omega
    dsimp only
    unfold F_2008_34
    simp only [la_210, c3, c8.1, c8.2.2.2.2.1, a1, gd_tt, oA_arr, px_obj_s, Option.bind_some, Option.map_some, Option.bind_none, eq_self, true_or, or_true, px_av_0, px_av_1, px_av_2, px_av_10, px_av_11, bn, wi_1, wi_2, wl_1, wl_21, wl_22, wr_1, wr_21, wr_22, Sum.elim_inl, Sum.elim_inr, ↓reduceIte, Nat.reduceLT, Nat.reduceLeDiff, not_false_eq_true, not_true_eq_false, Nat.reduceEqDiff, Nat.reduceAdd, reduceCtorEq, and_true, true_and, and_false, false_and, false_or, or_false, nI_add]
  · have a1 : ¬ nI n ≤ nI j := by rw [nI_leI (by omega) (by omega)]; omega
    have d1 : vp_in (nI r) 6 := (vp_in_eq (by omega)).mpr (by omega)
    have d2 : (nI r).toNatClampNeg = r := nI_clamp (by omega)
    have d3 : ρ.1 219 r = nI (hset n B S C r) := by rw [g1.1 219 r rfl]; exact hh r hr
    have hl := hset_lt (B := B) (S := S) (C := C) hn r
    have ht := ni_tst (s := hset n B S C r) (j := j) (by omega) (by omega)
    rw [hset_tb r (show j < n by omega)] at ht
    cases hb : rhr n B S C r j with
    | false =>
      rw [hb] at ht
      have ht' := ht.mpr rfl
      refine Or.inl ⟨(nI (j + 1), ρ), ?_, by omega, ρ, rfl, g1, fun h hh2 q => ?_⟩
      · dsimp only
        unfold F_2008_34 f_2008_69
        simp only [la_210, la_219, c3, c8.1, c8.2.2.2.2.1, a1, rc_210_3 c1, gd_tt, oA_arr, px_obj_s, Option.bind_some, Option.map_some, Option.bind_none, eq_self, true_or, or_true, px_av_0, px_av_1, px_av_2, px_av_10, px_av_11, bn, wi_1, wi_2, wl_1, wl_21, wl_22, wr_1, wr_21, wr_22, Sum.elim_inl, Sum.elim_inr, ↓reduceIte, Nat.reduceLT, Nat.reduceLeDiff, not_false_eq_true, not_true_eq_false, Nat.reduceEqDiff, Nat.reduceAdd, reduceCtorEq, and_true, true_and, and_false, false_and, false_or, or_false, d1, d2, d3, ht', nI_add]
      · by_cases hhj : h = j
        · subst hhj; rw [hb] at q; cases q
        · exact g2 h (by omega) q
    | true =>
      rw [hb] at ht
      have ht' : ¬ (nI (hset n B S C r) &&& (nI 1 <<< (nI j &&& 31)) = nI 0) := fun q => by have := ht.mp q; cases this
      obtain ⟨υ, q1, q2⟩ := c_standsR hsρ (ask_8 g1 ha) hr hU (show j < n' by omega)
      cases hg : rhr n' B' S C r j with
      | false =>
        rw [hg] at q1
        refine Or.inr ⟨.inr (nI 0, υ), ?_, Or.inr ⟨υ, rfl, fr_tr g1 q2, j, by omega, hb, hg⟩⟩
        dsimp only
        unfold F_2008_34 f_2008_69
        simp only [la_210, la_219, c3, c8.1, c8.2.2.2.2.1, a1, rc_210_3 c1, gd_tt, oA_arr, px_obj_s, Option.bind_some, Option.map_some, Option.bind_none, eq_self, true_or, or_true, px_av_0, px_av_1, px_av_2, px_av_10, px_av_11, bn, wi_1, wi_2, wl_1, wl_21, wl_22, wr_1, wr_21, wr_22, Sum.elim_inl, Sum.elim_inr, ↓reduceIte, Nat.reduceLT, Nat.reduceLeDiff, not_false_eq_true, not_true_eq_false, Nat.reduceEqDiff, Nat.reduceAdd, reduceCtorEq, and_true, true_and, and_false, false_and, false_or, or_false, d1, d2, d3, ht', q1, mb_f0]
      | true =>
        rw [hg] at q1
        refine Or.inl ⟨(nI (j + 1), υ), ?_, by omega, υ, rfl, fr_tr g1 q2, fun h hh2 q => ?_⟩
        · dsimp only
          unfold F_2008_34 f_2008_69
          simp only [la_210, la_219, c3, c8.1, c8.2.2.2.2.1, a1, rc_210_3 c1, gd_tt, oA_arr, px_obj_s, Option.bind_some, Option.map_some, Option.bind_none, eq_self, true_or, or_true, px_av_0, px_av_1, px_av_2, px_av_10, px_av_11, bn, wi_1, wi_2, wl_1, wl_21, wl_22, wr_1, wr_21, wr_22, Sum.elim_inl, Sum.elim_inr, ↓reduceIte, Nat.reduceLT, Nat.reduceLeDiff, not_false_eq_true, not_true_eq_false, Nat.reduceEqDiff, Nat.reduceAdd, reduceCtorEq, and_true, true_and, and_false, false_and, false_or, or_false, d1, d2, d3, ht', q1, mb_t1, n10, nI_add]
        · by_cases hhj : h = j
          · subst hhj; exact hg
          · exact g2 h (by omega) q
theorem hol_fr {Q : Nat → Nat → Bool} (h : fr Q σ τ) (h9 : ∀ j, Q 219 j = false) (hh : hol σ nr n B S C) : hol τ nr n B S C := fun r hr => by rw [h.1 219 r (h9 r)]; exact hh r hr
theorem c_keeps (hs : cst σ R T nr S C n B) (hh : hol σ nr n B S C) (hnn : n ≤ n') {k0 : Nat} (ha : askd σ u n' B' k0) : ∃ υ, f_2008 tT σ 210 = some (mb (kpb nr n (rhr n B S C) (rhr n' B' S C)), υ) ∧ fr SN8 σ υ := by
  have u6 := hs.2.2.2.2.1.1
  unfold f_2008 f_2008_2
  obtain ⟨b, q1, υ, rfl, q2⟩ := lp_rel (F := fun s : Int32 × px_M => F_2008_2 tT 210 s.1 s.2) (fun r q => ∃ ρ k, q = (nI r, ρ) ∧ fr SN8 σ ρ ∧ askd ρ u n' B' k ∧ ∀ i, i < r → ∀ h, h < n → rhr n B S C i h = true → rhr n' B' S C i h = true) (fun b => ∃ υ, b = (mb (kpb nr n (rhr n B S C) (rhr n' B' S C)), υ) ∧ fr SN8 σ υ) nr (fun r q hr hI => by
    obtain ⟨ρ, k, rfl, g1, g2, g3⟩ := hI
    have hsρ := cst_SN8 g1 hs
    obtain ⟨c1, ⟨c2, c3⟩, c4, c5, c6, c7, c8⟩ := id hsρ
    obtain ⟨⟨l0, l1, l2, l3⟩, ⟨f1, f2, f3⟩, d0, -, d2, -, -⟩ := c7
    by_cases hrn : r = nr
    · subst hrn
      have e : kpb r n (rhr n B S C) (rhr n' B' S C) = true := decide_eq_true g3
      refine Or.inr ⟨(mb (kpb r n (rhr n B S C) (rhr n' B' S C)), ρ), ?_, ρ, rfl, g1⟩
      have a1 : nI r ≤ nI r := by rw [nI_leI (by omega) (by omega)]; omega
      rw [e]
      dsimp only
      unfold F_2008_2
      simp only [la_210, c2, l0, d0, a1, gd_tt, oA_arr, px_obj_s, Option.bind_some, Option.map_some, Option.bind_none, eq_self, true_or, or_true, px_av_0, px_av_1, px_av_2, px_av_10, px_av_11, bn, wi_1, wi_2, wl_1, wl_21, wl_22, wr_1, wr_21, wr_22, Sum.elim_inl, Sum.elim_inr, ↓reduceIte, Nat.reduceLT, Nat.reduceLeDiff, not_false_eq_true, not_true_eq_false, Nat.reduceEqDiff, Nat.reduceAdd, reduceCtorEq, and_true, true_and, and_false, false_and, false_or, or_false, mb_t1]
    · obtain ⟨υ, p1, p2, p3⟩ := c_findR hsρ g2 (show r < nr by omega)
      obtain ⟨b, w1, w2⟩ := c_keep34 (cst_SN p2 hsρ) (hol_fr p2 (fun _ => rfl) (hol_fr g1 (fun _ => rfl) hh)) hnn p3 (show r < nr by omega) (fun w h => or_l h)
      have a1 : ¬ nI nr ≤ nI r := by rw [nI_leI (by omega) (by omega)]; omega
      have a2 : ¬ nI 6 ≤ nI r := by rw [nI_leI (by omega) (by omega)]; omega
      have e1 : vp_in (nI r) 6 := (vp_in_eq (by omega)).mpr (by omega)
      have e2 : (nI r).toNatClampNeg = r := nI_clamp (by omega)
      rcases w2 with ⟨ω, rfl, w3, w4⟩ | ⟨ω, rfl, w3, h, w4, w5, w6⟩
      · refine Or.inl ⟨(nI (r + 1), ω), ?_, by omega, ω, k ||| us S C r, rfl, fr_tr g1 (fr_tr (SN_SN8 p2) (on8_SN8 w3)), ask_8 w3 p3, fun i hi => ?_⟩
        · dsimp only
          unfold F_2008_2
          simp only [la_210, c2, l0, d0, a1, a2, f2, l2, gd_tt, oA_arr, px_obj_s, Option.bind_some, Option.map_some, Option.bind_none, eq_self, true_or, or_true, px_av_0, px_av_1, px_av_2, px_av_10, px_av_11, bn, wi_1, wi_2, wl_1, wl_21, wl_22, wr_1, wr_21, wr_22, Sum.elim_inl, Sum.elim_inr, ↓reduceIte, Nat.reduceLT, Nat.reduceLeDiff, not_false_eq_true, not_true_eq_false, Nat.reduceEqDiff, Nat.reduceAdd, reduceCtorEq, and_true, true_and, and_false, false_and, false_or, or_false, e1, e2, d2 r (show r < nr by omega), p1, w1]
        · by_cases hir : i = r
          · subst hir; exact w4
          · exact g3 i (by omega)
      · have e : kpb nr n (rhr n B S C) (rhr n' B' S C) = false := decide_eq_false (fun q => by have := q r (by omega) h w4 w5; rw [w6] at this; cases this)
        refine Or.inr ⟨(mb (kpb nr n (rhr n B S C) (rhr n' B' S C)), ω), ?_, ω, rfl, fr_tr g1 (fr_tr (SN_SN8 p2) (on8_SN8 w3))⟩
        rw [e]
        dsimp only
        unfold F_2008_2
        simp only [la_210, c2, l0, d0, a1, a2, f2, l2, gd_tt, oA_arr, px_obj_s, Option.bind_some, Option.map_some, Option.bind_none, eq_self, true_or, or_true, px_av_0, px_av_1, px_av_2, px_av_10, px_av_11, bn, wi_1, wi_2, wl_1, wl_21, wl_22, wr_1, wr_21, wr_22, Sum.elim_inl, Sum.elim_inr, ↓reduceIte, Nat.reduceLT, Nat.reduceLeDiff, not_false_eq_true, not_true_eq_false, Nat.reduceEqDiff, Nat.reduceAdd, reduceCtorEq, and_true, true_and, and_false, false_and, false_or, or_false, e1, e2, d2 r (show r < nr by omega), p1, w1, mb_f0]) 0 (nI 0, σ) (by omega) ⟨σ, k0, rfl, fr_rf _ _, ha, fun i hi => by omega⟩
  exact ⟨υ, q1, q2⟩
theorem c_suits (hs : cst σ R T nr S C n B) {k0 : Nat} (ha : askd σ u n' B' k0) {m : Nat} (hm : m < n') : ∃ υ k, f_2007 tT σ 210 (nI m) = some (mb (stb nr m (rhr n' B' S C)), υ) ∧ fr SN8 σ υ ∧ askd υ u n' B' k := by
  have u6 := hs.2.2.2.2.1.1
  unfold f_2007 f_2007_2
  obtain ⟨b, q1, υ, k, rfl, q2, q3⟩ := lp_rel (F := fun s : Int32 × px_M => F_2007_2 tT 210 (nI m) s.1 s.2) (fun r q => ∃ ρ k, q = (nI r, ρ) ∧ fr SN8 σ ρ ∧ askd ρ u n' B' k ∧ ∀ i, i < r → rhr n' B' S C i m = true) (fun b => ∃ υ k, b = (mb (stb nr m (rhr n' B' S C)), υ) ∧ fr SN8 σ υ ∧ askd υ u n' B' k) nr (fun r q hr hI => by
    obtain ⟨ρ, k, rfl, g1, g2, g3⟩ := hI
    have hsρ := cst_SN8 g1 hs
    obtain ⟨c1, ⟨c2, c3⟩, c4, c5, c6, c7, c8⟩ := id hsρ
    obtain ⟨⟨l0, l1, l2, l3⟩, ⟨f1, f2, f3⟩, d0, -, d2, -, -⟩ := c7
    by_cases hrn : r = nr
    · subst hrn
      have e : stb r m (rhr n' B' S C) = true := decide_eq_true g3
      refine Or.inr ⟨(mb (stb r m (rhr n' B' S C)), ρ), ?_, ρ, k, rfl, g1, g2⟩
      have a1 : nI r ≤ nI r := by rw [nI_leI (by omega) (by omega)]; omega
      rw [e]
      dsimp only
      unfold F_2007_2
      simp only [la_210, c2, l0, d0, a1, gd_tt, oA_arr, px_obj_s, Option.bind_some, Option.map_some, Option.bind_none, eq_self, true_or, or_true, px_av_0, px_av_1, px_av_2, px_av_10, px_av_11, bn, wi_1, wi_2, wl_1, wl_21, wl_22, wr_1, wr_21, wr_22, Sum.elim_inl, Sum.elim_inr, ↓reduceIte, Nat.reduceLT, Nat.reduceLeDiff, not_false_eq_true, not_true_eq_false, Nat.reduceEqDiff, Nat.reduceAdd, reduceCtorEq, and_true, true_and, and_false, false_and, false_or, or_false, mb_t1]
    · obtain ⟨υ, p1, p2, p3⟩ := c_findR hsρ g2 (show r < nr by omega)
      obtain ⟨ω, w1, w2⟩ := c_standsR (cst_SN p2 hsρ) p3 (show r < nr by omega) (fun w h => or_l h) hm
      have a1 : ¬ nI nr ≤ nI r := by rw [nI_leI (by omega) (by omega)]; omega
      have a2 : ¬ nI 6 ≤ nI r := by rw [nI_leI (by omega) (by omega)]; omega
      have e1 : vp_in (nI r) 6 := (vp_in_eq (by omega)).mpr (by omega)
      have e2 : (nI r).toNatClampNeg = r := nI_clamp (by omega)
      cases hg : rhr n' B' S C r m with
      | true =>
        rw [hg] at w1
        refine Or.inl ⟨(nI (r + 1), ω), ?_, by omega, ω, k ||| us S C r, rfl, fr_tr g1 (fr_tr (SN_SN8 p2) (on8_SN8 w2)), ask_8 w2 p3, fun i hi => ?_⟩
        · dsimp only
          unfold F_2007_2
          simp only [la_210, c2, l0, d0, a1, a2, f2, l2, gd_tt, oA_arr, px_obj_s, Option.bind_some, Option.map_some, Option.bind_none, eq_self, true_or, or_true, px_av_0, px_av_1, px_av_2, px_av_10, px_av_11, bn, wi_1, wi_2, wl_1, wl_21, wl_22, wr_1, wr_21, wr_22, Sum.elim_inl, Sum.elim_inr, ↓reduceIte, Nat.reduceLT, Nat.reduceLeDiff, not_false_eq_true, not_true_eq_false, Nat.reduceEqDiff, Nat.reduceAdd, reduceCtorEq, and_true, true_and, and_false, false_and, false_or, or_false, e1, e2, d2 r (show r < nr by omega), p1, w1, mb_t1, n10, nI_add]
        · by_cases hir : i = r
          · subst hir; exact hg
          · exact g3 i (by omega)
      | false =>
        rw [hg] at w1
        have e : stb nr m (rhr n' B' S C) = false := decide_eq_false (fun q => by have := q r (by omega); rw [hg] at this; cases this)
        refine Or.inr ⟨(mb (stb nr m (rhr n' B' S C)), ω), ?_, ω, k ||| us S C r, rfl, fr_tr g1 (fr_tr (SN_SN8 p2) (on8_SN8 w2)), ask_8 w2 p3⟩
        rw [e]
        dsimp only
        unfold F_2007_2
        simp only [la_210, c2, l0, d0, a1, a2, f2, l2, gd_tt, oA_arr, px_obj_s, Option.bind_some, Option.map_some, Option.bind_none, eq_self, true_or, or_true, px_av_0, px_av_1, px_av_2, px_av_10, px_av_11, bn, wi_1, wi_2, wl_1, wl_21, wl_22, wr_1, wr_21, wr_22, Sum.elim_inl, Sum.elim_inr, ↓reduceIte, Nat.reduceLT, Nat.reduceLeDiff, not_false_eq_true, not_true_eq_false, Nat.reduceEqDiff, Nat.reduceAdd, reduceCtorEq, and_true, true_and, and_false, false_and, false_or, or_false, e1, e2, d2 r (show r < nr by omega), p1, w1, mb_f0]) 0 (nI 0, σ) (by omega) ⟨σ, k0, rfl, fr_rf _ _, ha, fun i hi => by omega⟩
  exact ⟨υ, k, q1, q2, q3⟩
/-- what is against a door between a and b -/
noncomputable def rj (n : Nat) (B : Nat → Nat) (nr : Nat) (S C : Nat → Nat) (a b : Nat) : Nat := if (B a).testBit b = true then 2 else if ¬ B a &&& B b = 0 then 3 else if nr = 0 then 0 else if kpb nr n (rhr n B S C) (rhr n (jn B a b) S C) = true then 0 else 4
/-- the trial: a town of the council's own, then asked -/
theorem c_trial (hs : cst σ R T nr S C n B) (h9 : σ.1 210 9 = nI 1) (hh : hol σ nr n B S C) : ∃ υ, f_11007 tT σ 216 T = some υ ∧ fr (tw2 216) σ υ ∧ ct υ 216 n B ∧ cst υ R T nr S C n B ∧ υ.1 210 9 = nI 1 ∧ hol υ nr n B S C := by
  obtain ⟨c1, ⟨c2, c3⟩, c4, c5, c6, c7, c8⟩ := id hs
  obtain ⟨υ, q1, q2, q3⟩ := c_become c8 la_216 la_217 (rc_216_1 c1) (by unfold outT at c5; omega) (by unfold outT at c5; omega) (by unfold outT at c5; omega)
  exact ⟨υ, q1, q2, q3, cst_fr q2 (fun l j h => tw2_n (by have := CS_f h; omega) (by have := CS_f h; omega)) rfl rfl hs, by rw [q2.1 210 9 rfl]; exact h9, hol_fr q2 (fun _ => rfl) hh⟩
theorem CS_tw : ∀ l j, CS l j = false → tw2 216 l j = false := fun l j h => tw2_n (by have := CS_f h; omega) (by have := CS_f h; omega)
/-- the council turns to its trial -/
theorem c_turn (hs : cst σ R T nr S C n B) (h9 : σ.1 210 9 = nI 1) (hh : hol σ nr n B S C) (ht : ct σ 216 n' B') : ∃ υ, f_2009 tT σ 210 216 = some υ ∧ fr CS σ υ ∧ cst υ R T nr S C n B ∧ υ.1 210 9 = nI 1 ∧ hol υ nr n B S C ∧ askd υ 216 n' B' 0 := by
  obtain ⟨ρ, hρ⟩ : ∃ ρ, px_wi (px_wr σ 210 7 (some 216)) 210 8 (nI 0) = ρ := ⟨_, rfl⟩
  obtain ⟨c1, ⟨c2, c3⟩, c4, c5, c6, c7, c8⟩ := id hs
  have g1 : fr (on 210) σ ρ := by rw [← hρ]; exact fr_wi (fr_wr (fr_rf _ _) _ rfl rfl) _ rfl
  have g2 : fr CS σ ρ := fr_mono g1 (fun l j h => by have := CS_f h; simp only [on, beq_eq_false_iff_ne]; omega)
  refine ⟨ρ, ?_, g2, ⟨cR_fr g1 c1, ⟨?_, ?_⟩, c4, c5, c6, cru_CS c4 g2 c7, ct_CS c5 g2 c8⟩, ?_, hol_fr g1 (fun _ => rfl) hh, ?_, ok_216, ct_fr g1 (fun _ => rfl) (fun _ => rfl) ht, by decide, ?_, fun w _ hp => by simp at hp⟩
  · simp only [f_2009, la_210, gd_tt, oA_arr, px_obj_s, Option.bind_some, Option.map_some, Option.bind_none, eq_self, true_or, or_true, px_av_0, px_av_1, px_av_2, px_av_10, px_av_11, bn, wi_1, wi_2, wl_1, wl_21, wl_22, wr_1, wr_21, wr_22, Sum.elim_inl, Sum.elim_inr, ↓reduceIte, Nat.reduceLT, Nat.reduceLeDiff, not_false_eq_true, not_true_eq_false, Nat.reduceEqDiff, Nat.reduceAdd, reduceCtorEq, and_true, true_and, and_false, false_and, false_or, or_false, hρ]
  · rw [← hρ, wi_2, wr_22, px_up_n (by decide)]; exact c2
  · rw [← hρ, wi_2, wr_22, px_up_n (by decide)]; exact c3
  · rw [← hρ, wi_1, px_up_n (by decide), wr_1]; exact h9
  · rw [← hρ, wi_2, wr_22]; exact px_up_s _ _ _ _
  · rw [← hρ]; exact wi_s _ _ _ _
theorem c_rj (hc : cnv σ R T nr S C n B) {a b : Nat} (ha : a < n) (hb : b < n) (hab : a ≠ b) : ∃ υ, f_2005 tT σ 210 (nI a) (nI b) = some (nI (rj n B nr S C a b), υ) ∧ fr CS σ υ ∧ cnv υ R T nr S C n B := by
  obtain ⟨c1, ⟨c2, c3⟩, c4, c5, c6, c7, c8⟩ := id hc.1
  have u6 := c6.1
  have hw := c8.2.2.2.1
  have hn := hw.1
  have p1 := c_isPair c8 (a := a) (b := b) (by omega) (by omega)
  rw [decide_eq_true ⟨ha, hb, hab⟩, mb_t1] at p1
  have p2 := c_linked c8 ha hb
  have k1 := c_nei c8 ha
  have k2 := c_nei c8 hb
  unfold rj
  cases h1 : (B a).testBit b with
  | true =>
    rw [h1, mb_t1] at p2
    refine ⟨σ, ?_, fr_rf _ _, hc⟩
    simp only [f_2005, f_2005_26, la_210, c3, c8.1, gd_tt, oA_arr, px_obj_s, Option.bind_some, Option.map_some, Option.bind_none, eq_self, true_or, or_true, px_av_0, px_av_1, px_av_2, px_av_10, px_av_11, bn, wi_1, wi_2, wl_1, wl_21, wl_22, wr_1, wr_21, wr_22, Sum.elim_inl, Sum.elim_inr, ↓reduceIte, Nat.reduceLT, Nat.reduceLeDiff, not_false_eq_true, not_true_eq_false, Nat.reduceEqDiff, Nat.reduceAdd, reduceCtorEq, and_true, true_and, and_false, false_and, false_or, or_false, p1, p2, n10]
  | false =>
    rw [h1, mb_f0] at p2
    have hBa := wf_2048 hw a
    have hlt : B a &&& B b < 2048 := and_lt hBa
    by_cases h2 : B a &&& B b = 0
    · have z2 : nI (B a &&& B b) = nI 0 := by rw [h2]
      by_cases h3 : nr = 0
      · have hd0 := c7.2.2.1
        rw [h3] at hd0
        refine ⟨σ, ?_, fr_rf _ _, hc⟩
        rw [if_neg (by simp), if_neg (by simp [h2]), if_pos h3]
        simp only [f_2005, f_2005_28, f_2005_50, la_210, c2, c3, c8.1, c7.1.1, hd0, gd_tt, oA_arr, px_obj_s, Option.bind_some, Option.map_some, Option.bind_none, eq_self, true_or, or_true, px_av_0, px_av_1, px_av_2, px_av_10, px_av_11, bn, wi_1, wi_2, wl_1, wl_21, wl_22, wr_1, wr_21, wr_22, Sum.elim_inl, Sum.elim_inr, ↓reduceIte, Nat.reduceLT, Nat.reduceLeDiff, not_false_eq_true, not_true_eq_false, Nat.reduceEqDiff, Nat.reduceAdd, reduceCtorEq, and_true, true_and, and_false, false_and, false_or, or_false, p1, p2, n10, k1, k2, fa_and, z2]
      · have hd0 := c7.2.2.1
        have z3 : ¬ nI nr = nI 0 := by rw [nI_eq (by omega) (by omega)]; exact h3
        obtain ⟨ρ, q1, q2, q3, q4, q5⟩ := c_survey hc
        obtain ⟨υ, r1, r2, r3, r4, r5, r6⟩ := c_trial q3 q4 q5
        obtain ⟨ω, s1, s2, s3⟩ := c_link r3 ha hb hab
        have hsω := cst_fr s2 CS_tw rfl rfl r4
        obtain ⟨χ, t1, t2, t3, t4, t5, t6⟩ := c_turn hsω (by rw [s2.1 210 9 rfl]; exact r5) (hol_fr s2 (fun _ => rfl) r6) s3
        obtain ⟨ψ, v1, v2⟩ := c_keeps t3 t5 (Nat.le_refl n) t6
        have hfin : fr CS σ ψ := fr_tr q2 (fr_tr (fr_mono r2 CS_tw) (fr_tr (fr_mono s2 CS_tw) (fr_tr t2 (fr_mono v2 CS_SN8))))
        have hcnv : cnv ψ R T nr S C n B := ⟨cst_SN8 v2 t3, Or.inr ⟨by rw [v2.1 210 9 rfl]; exact t4, hol_fr v2 (fun _ => rfl) t5⟩⟩
        rw [if_neg (by simp), if_neg (by simp [h2]), if_neg h3]
        cases hk : kpb nr n (rhr n B S C) (rhr n (jn B a b) S C) with
        | true =>
          rw [hk, mb_t1] at v1
          refine ⟨ψ, ?_, hfin, hcnv⟩
          rw [if_pos rfl]
          simp only [f_2005, f_2005_28, f_2005_50, f_2005_77, f_2005_94, la_210, la_216, c2, c3, c8.1, c7.1.1, hd0, z3, gd_tt, oA_arr, px_obj_s, Option.bind_some, Option.map_some, Option.bind_none, eq_self, true_or, or_true, px_av_0, px_av_1, px_av_2, px_av_10, px_av_11, bn, wi_1, wi_2, wl_1, wl_21, wl_22, wr_1, wr_21, wr_22, Sum.elim_inl, Sum.elim_inr, ↓reduceIte, Nat.reduceLT, Nat.reduceLeDiff, not_false_eq_true, not_true_eq_false, Nat.reduceEqDiff, Nat.reduceAdd, reduceCtorEq, and_true, true_and, and_false, false_and, false_or, or_false, p1, p2, n10, k1, k2, fa_and, z2, q1, rc_210_1 q3.1, q3.2.1.2, r1, rc_210_1 r4.1, s1, rc_210_1 hsω.1, t1, v1]
        | false =>
          rw [hk, mb_f0] at v1
          refine ⟨ψ, ?_, hfin, hcnv⟩
          rw [if_neg (by simp)]
          simp only [f_2005, f_2005_28, f_2005_50, f_2005_77, f_2005_94, la_210, la_216, c2, c3, c8.1, c7.1.1, hd0, z3, gd_tt, oA_arr, px_obj_s, Option.bind_some, Option.map_some, Option.bind_none, eq_self, true_or, or_true, px_av_0, px_av_1, px_av_2, px_av_10, px_av_11, bn, wi_1, wi_2, wl_1, wl_21, wl_22, wr_1, wr_21, wr_22, Sum.elim_inl, Sum.elim_inr, ↓reduceIte, Nat.reduceLT, Nat.reduceLeDiff, not_false_eq_true, not_true_eq_false, Nat.reduceEqDiff, Nat.reduceAdd, reduceCtorEq, and_true, true_and, and_false, false_and, false_or, or_false, p1, p2, n10, k1, k2, fa_and, z2, q1, rc_210_1 q3.1, q3.2.1.2, r1, rc_210_1 r4.1, s1, rc_210_1 hsω.1, t1, v1]
    · have z2 : ¬ nI (B a &&& B b) = nI 0 := by rw [nI_eq (by omega) (by omega)]; exact h2
      refine ⟨σ, ?_, fr_rf _ _, hc⟩
      rw [if_neg (by simp), if_pos h2]
      simp only [f_2005, f_2005_28, f_2005_48, la_210, c3, c8.1, gd_tt, oA_arr, px_obj_s, Option.bind_some, Option.map_some, Option.bind_none, eq_self, true_or, or_true, px_av_0, px_av_1, px_av_2, px_av_10, px_av_11, bn, wi_1, wi_2, wl_1, wl_21, wl_22, wr_1, wr_21, wr_22, Sum.elim_inl, Sum.elim_inr, ↓reduceIte, Nat.reduceLT, Nat.reduceLeDiff, not_false_eq_true, not_true_eq_false, Nat.reduceEqDiff, Nat.reduceAdd, reduceCtorEq, and_true, true_and, and_false, false_and, false_or, or_false, p1, p2, n10, k1, k2, fa_and, z2]
theorem c_rj1 (hc : cnv σ R T nr S C n B) {x y : Int32} (hp : f_11003 tT σ T x y = some (nI 0)) : f_2005 tT σ 210 x y = some (nI 1, σ) := by
  obtain ⟨c1, ⟨c2, c3⟩, c4, c5, c6, c7, c8⟩ := id hc.1
  simp only [f_2005, la_210, c3, c8.1, gd_tt, oA_arr, px_obj_s, Option.bind_some, Option.map_some, Option.bind_none, eq_self, true_or, or_true, px_av_0, px_av_1, px_av_2, px_av_10, px_av_11, bn, wi_1, wi_2, wl_1, wl_21, wl_22, wr_1, wr_21, wr_22, Sum.elim_inl, Sum.elim_inr, ↓reduceIte, Nat.reduceLT, Nat.reduceLeDiff, not_false_eq_true, not_true_eq_false, Nat.reduceEqDiff, Nat.reduceAdd, reduceCtorEq, and_true, true_and, and_false, false_and, false_or, or_false, hp]
/-- what is against a house with the doors s -/
noncomputable def re (n : Nat) (B : Nat → Nat) (nr : Nat) (S C : Nat → Nat) (s : Nat) : Nat := if n = 11 then 6 else if fe n B s = false then 3 else if stb nr n (rhr (n + 1) (ah n B s) S C) = true ∧ kpb nr n (rhr n B S C) (rhr (n + 1) (ah n B s) S C) = true then 0 else 4
theorem ar_fe {s : Nat} (hs : s < 2 ^ n) : ar B n s &&& s = 0 ↔ fe n B s = true := by
  rw [fe_iff, and_0iff]
  constructor
  · intro h x hx hxs
    exact and_0iff.mpr (fun y hy => h y ⟨ar_tb.mpr ⟨x, hx, hxs, hy.1⟩, hy.2⟩)
  · intro h y hy
    obtain ⟨x, x1, x2, x3⟩ := ar_tb.mp hy.1
    exact and_0iff.mp (h x x1 x2) y ⟨x3, hy.2⟩
theorem c_re (hc : cnv σ R T nr S C n B) {s : Nat} (hs : s < 2 ^ n) : ∃ υ, f_2006 tT σ 210 (nI s) = some (nI (re n B nr S C s), υ) ∧ fr CS σ υ ∧ cnv υ R T nr S C n B := by
  obtain ⟨c1, ⟨c2, c3⟩, c4, c5, c6, c7, c8⟩ := id hc.1
  have u6 := c6.1
  have hw := c8.2.2.2.1
  have hn := hw.1
  have e1 := c8.2.2.2.2.1
  have hp := pw_le hn
  have hs2 : s < 2048 := by omega
  have hndz : nd s (2 ^ n - 1) = 0 := by
    apply tb_eq
    intro i
    rw [nd_tb hs2, tb_all, Nat.zero_testBit]
    cases h : s.testBit i with
    | false => simp
    | true => simp [tb_lt hs h]
  have z0 : nI s &&& (nI (2 ^ n - 1) ^^^ (-1)) = nI 0 := by rw [ni_nd hs2, hndz]
  have k0 := c_all c8
  unfold re
  by_cases h11 : n = 11
  · refine ⟨σ, ?_, fr_rf _ _, hc⟩
    rw [if_pos h11]
    have a1 : ¬ nI n < nI 11 := by rw [nI_ltI (by omega) (by omega)]; omega
    simp only [f_2006, la_210, c3, c8.1, e1, gd_tt, oA_arr, px_obj_s, Option.bind_some, Option.map_some, Option.bind_none, eq_self, true_or, or_true, px_av_0, px_av_1, px_av_2, px_av_10, px_av_11, bn, wi_1, wi_2, wl_1, wl_21, wl_22, wr_1, wr_21, wr_22, Sum.elim_inl, Sum.elim_inr, ↓reduceIte, Nat.reduceLT, Nat.reduceLeDiff, not_false_eq_true, not_true_eq_false, Nat.reduceEqDiff, Nat.reduceAdd, reduceCtorEq, and_true, true_and, and_false, false_and, false_or, or_false, k0, z0, a1]
  · rw [if_neg h11]
    have a1 : nI n < nI 11 := by rw [nI_ltI (by omega) (by omega)]; omega
    have k1 := c_around c8 hs2
    have hal : ar B n s &&& s < 2048 := Nat.lt_of_le_of_lt Nat.and_le_right hs2
    cases hf : fe n B s with
    | false =>
      have h2 : ¬ ar B n s &&& s = 0 := fun q => by rw [ar_fe hs, hf] at q; cases q
      have z2 : ¬ nI (ar B n s &&& s) = nI 0 := by rw [nI_eq (by omega) (by omega)]; exact h2
      refine ⟨σ, ?_, fr_rf _ _, hc⟩
      rw [if_pos rfl]
      simp only [f_2006, f_2006_44, la_210, c3, c8.1, e1, gd_tt, oA_arr, px_obj_s, Option.bind_some, Option.map_some, Option.bind_none, eq_self, true_or, or_true, px_av_0, px_av_1, px_av_2, px_av_10, px_av_11, bn, wi_1, wi_2, wl_1, wl_21, wl_22, wr_1, wr_21, wr_22, Sum.elim_inl, Sum.elim_inr, ↓reduceIte, Nat.reduceLT, Nat.reduceLeDiff, not_false_eq_true, not_true_eq_false, Nat.reduceEqDiff, Nat.reduceAdd, reduceCtorEq, and_true, true_and, and_false, false_and, false_or, or_false, k0, z0, a1, k1, fa_and, z2]
    | true =>
      rw [if_neg (by simp)]
      have h2 : ar B n s &&& s = 0 := (ar_fe hs).mpr hf
      have z2 : nI (ar B n s &&& s) = nI 0 := by rw [h2]
      by_cases h3 : nr = 0
      · have hd0 := c7.2.2.1
        rw [h3] at hd0
        refine ⟨σ, ?_, fr_rf _ _, hc⟩
        rw [if_pos ⟨decide_eq_true (fun r hr => by omega), decide_eq_true (fun r hr => by omega)⟩]
        simp only [f_2006, f_2006_46, la_210, c2, c3, c8.1, c7.1.1, hd0, e1, gd_tt, oA_arr, px_obj_s, Option.bind_some, Option.map_some, Option.bind_none, eq_self, true_or, or_true, px_av_0, px_av_1, px_av_2, px_av_10, px_av_11, bn, wi_1, wi_2, wl_1, wl_21, wl_22, wr_1, wr_21, wr_22, Sum.elim_inl, Sum.elim_inr, ↓reduceIte, Nat.reduceLT, Nat.reduceLeDiff, not_false_eq_true, not_true_eq_false, Nat.reduceEqDiff, Nat.reduceAdd, reduceCtorEq, and_true, true_and, and_false, false_and, false_or, or_false, k0, z0, a1, k1, fa_and, z2]
      · have hd0 := c7.2.2.1
        have z3 : ¬ nI nr = nI 0 := by rw [nI_eq (by omega) (by omega)]; exact h3
        obtain ⟨ρ, q1, q2, q3, q4, q5⟩ := c_survey hc
        obtain ⟨υ, r1, r2, r3, r4, r5, r6⟩ := c_trial q3 q4 q5
        obtain ⟨ω, s1, s2, s3⟩ := c_addHouse r3 (by omega) hs
        have hsω := cst_fr s2 CS_tw rfl rfl r4
        obtain ⟨χ, t1, t2, t3, t4, t5, t6⟩ := c_turn hsω (by rw [s2.1 210 9 rfl]; exact r5) (hol_fr s2 (fun _ => rfl) r6) s3
        obtain ⟨ψ, kk, v1, v2, v3⟩ := c_suits t3 t6 (show n < n + 1 by omega)
        have hsψ := cst_SN8 v2 t3
        obtain ⟨ζ, y1, y2⟩ := c_keeps hsψ (hol_fr v2 (fun _ => rfl) t5) (show n ≤ n + 1 by omega) v3
        have hf1 : fr CS σ ψ := fr_tr q2 (fr_tr (fr_mono r2 CS_tw) (fr_tr (fr_mono s2 CS_tw) (fr_tr t2 (fr_mono v2 CS_SN8))))
        have hc1 : cnv ψ R T nr S C n B := ⟨hsψ, Or.inr ⟨by rw [v2.1 210 9 rfl]; exact t4, hol_fr v2 (fun _ => rfl) t5⟩⟩
        have hf2 : fr CS σ ζ := fr_tr hf1 (fr_mono y2 CS_SN8)
        have hc2 : cnv ζ R T nr S C n B := ⟨cst_SN8 y2 hsψ, Or.inr ⟨by rw [y2.1 210 9 rfl, v2.1 210 9 rfl]; exact t4, hol_fr y2 (fun _ => rfl) (hol_fr v2 (fun _ => rfl) t5)⟩⟩
        obtain ⟨-, ⟨-, x3⟩, -, -, -, -, x8⟩ := t3
        cases hk : stb nr n (rhr (n + 1) (ah n B s) S C) with
        | false =>
          rw [hk, mb_f0] at v1
          refine ⟨ψ, ?_, hf1, hc1⟩
          rw [if_neg (by simp)]
          simp only [f_2006, f_2006_46, f_2006_73, f_2006_114, la_210, la_216, c2, c3, c8.1, c7.1.1, hd0, e1, z3, gd_tt, oA_arr, px_obj_s, Option.bind_some, Option.map_some, Option.bind_none, eq_self, true_or, or_true, px_av_0, px_av_1, px_av_2, px_av_10, px_av_11, bn, wi_1, wi_2, wl_1, wl_21, wl_22, wr_1, wr_21, wr_22, Sum.elim_inl, Sum.elim_inr, ↓reduceIte, Nat.reduceLT, Nat.reduceLeDiff, not_false_eq_true, not_true_eq_false, Nat.reduceEqDiff, Nat.reduceAdd, reduceCtorEq, and_true, true_and, and_false, false_and, false_or, or_false, k0, z0, a1, k1, fa_and, z2, q1, rc_210_1 q3.1, q3.2.1.2, r1, rc_210_1 r4.1, s1, rc_210_1 hsω.1, t1, x3, x8.1, x8.2.2.2.2.1, v1]
        | true =>
          rw [hk, mb_t1] at v1
          cases hk2 : kpb nr n (rhr n B S C) (rhr (n + 1) (ah n B s) S C) with
          | false =>
            rw [hk2, mb_f0] at y1
            refine ⟨ζ, ?_, hf2, hc2⟩
            rw [if_neg (by simp)]
            simp only [f_2006, f_2006_46, f_2006_73, f_2006_103, f_2006_114, la_210, la_216, c2, c3, c8.1, c7.1.1, hd0, e1, z3, gd_tt, oA_arr, px_obj_s, Option.bind_some, Option.map_some, Option.bind_none, eq_self, true_or, or_true, px_av_0, px_av_1, px_av_2, px_av_10, px_av_11, bn, wi_1, wi_2, wl_1, wl_21, wl_22, wr_1, wr_21, wr_22, Sum.elim_inl, Sum.elim_inr, ↓reduceIte, Nat.reduceLT, Nat.reduceLeDiff, not_false_eq_true, not_true_eq_false, Nat.reduceEqDiff, Nat.reduceAdd, reduceCtorEq, and_true, true_and, and_false, false_and, false_or, or_false, k0, z0, a1, k1, fa_and, z2, q1, rc_210_1 q3.1, q3.2.1.2, r1, rc_210_1 r4.1, s1, rc_210_1 hsω.1, t1, x3, x8.1, x8.2.2.2.2.1, v1, n10, y1]
          | true =>
            rw [hk2, mb_t1] at y1
            refine ⟨ζ, ?_, hf2, hc2⟩
            rw [if_pos (by simp)]
            simp only [f_2006, f_2006_46, f_2006_73, f_2006_103, f_2006_114, la_210, la_216, c2, c3, c8.1, c7.1.1, hd0, e1, z3, gd_tt, oA_arr, px_obj_s, Option.bind_some, Option.map_some, Option.bind_none, eq_self, true_or, or_true, px_av_0, px_av_1, px_av_2, px_av_10, px_av_11, bn, wi_1, wi_2, wl_1, wl_21, wl_22, wr_1, wr_21, wr_22, Sum.elim_inl, Sum.elim_inr, ↓reduceIte, Nat.reduceLT, Nat.reduceLeDiff, not_false_eq_true, not_true_eq_false, Nat.reduceEqDiff, Nat.reduceAdd, reduceCtorEq, and_true, true_and, and_false, false_and, false_or, or_false, k0, z0, a1, k1, fa_and, z2, q1, rc_210_1 q3.1, q3.2.1.2, r1, rc_210_1 r4.1, s1, rc_210_1 hsω.1, t1, x3, x8.1, x8.2.2.2.2.1, v1, n10, y1]
end
