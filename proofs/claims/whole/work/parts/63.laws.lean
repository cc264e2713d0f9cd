/-! rules asked: holds, broken, breaches, why, may: class and model alike -/
theorem SC_CS : ∀ l j, SC l j = false → CS l j = false := fun l j h => by
  simp only [SC, Bool.and_eq_false_iff, decide_eq_false_iff_not] at h
  exact CS_n j (by omega)
theorem fr_CS {σ τ : px_M} (h : fr CS σ τ) : fr SC σ τ := fr_mono h SC_CS
/-- a town and its rules: in the class, in the model -/
def clr (σ : px_M) (n : Nat) (B : Nat → Nat) (nr : Nat) (S C : Nat → Nat) : Prop := cl σ n B ∧ cru σ 113 nr S C ∧ rul nr S C
def mor (τ : px_M) (n : Nat) (B : Nat → Nat) (nr : Nat) (S C : Nat → Nat) : Prop := mo τ n B ∧ mru τ 0 nr S C
def agR (σ : px_M) (fc : Option (Int32 × px_M)) (fm : px_M → Option (Int32 × px_M)) (n : Nat) (B : Nat → Nat) (nr : Nat) (S C : Nat → Nat) : Prop := ∃ r σ', fc = some (r, σ') ∧ fr SC σ σ' ∧ ∀ τ, mor τ n B nr S C → ∃ υ, fm τ = some (r, υ) ∧ fk SM τ υ
theorem SM_rS : ∀ l j, SM l j = false → rS l j = false := fun l j h => RQ_rS l j (SM_RQ l j h)
theorem SM_1 : ∀ j, SM 1 j = false := fun j => by simp [SM]
theorem fk_thr {τ : px_M} : fk SM τ (px_wi τ 0 0 (nI 0)) := fk_of (fr_thr (fr_rf _ _)) SM_1
section
variable {σ τ : px_M} {T n nr : Nat} {B S C : Nat → Nat}
theorem mor_thr (h : mor τ n B nr S C) : mor (px_wi τ 0 0 (nI 0)) n B nr S C := ⟨mo_thr h.1, mru_fk fk_thr h.2⟩
theorem mor_fk {Q : Nat → Nat → Bool} {υ : px_M} (h : fk Q τ υ) (hm : mor τ n B nr S C) : mor υ n B nr S C := ⟨mo_fk h hm.1, mru_fk h hm.2⟩
theorem c_convene (hR : cR σ.2.2) (hcr : cru σ 113 nr S C) (hru : rul nr S C) (hT : outT T) (hc : ct σ T n B) : ∃ υ, f_12060 tT σ 100 T = some υ ∧ fr CS σ υ ∧ cnv υ 113 T nr S C n B := by
  obtain ⟨ρ, hρ⟩ : ∃ ρ, px_wi (px_wr (px_wr σ 210 5 (some 113)) 210 6 (some T)) 210 9 (nI 0) = ρ := ⟨_, rfl⟩
  have g1 : fr CS σ ρ := by rw [← hρ]; exact fr_wi (fr_wr (fr_wr (fr_rf _ _) _ rfl rfl) _ rfl rfl) _ rfl
  have r5 : ρ.2.2 210 5 = some 113 := by rw [← hρ, wi_2, wr_22, px_up_n (by decide), wr_22]; exact px_up_s _ _ _ _
  have r6 : ρ.2.2 210 6 = some T := by rw [← hρ, wi_2, wr_22]; exact px_up_s _ _ _ _
  have v9 : ρ.1 210 9 = nI 0 := by rw [← hρ]; exact wi_s _ _ _ _
  refine ⟨ρ, ?_, g1, ⟨cR_fr g1 hR, ⟨r5, r6⟩, by decide, hT, hru, cru_CS (by decide) g1 hcr, ct_CS hT g1 hc⟩, Or.inl v9⟩
  simp only [f_12060, f_2002, la_100, la_110, la_210, rc_100_0 hR, rc_100_10 hR, rc_110_1 hR, gd_tt, oA_arr, px_obj_s, Option.bind_some, Option.map_some, Option.bind_none, eq_self, true_or, or_true, px_av_0, px_av_1, px_av_2, px_av_10, px_av_11, bn, wi_1, wi_2, wl_1, wl_21, wl_22, wr_1, wr_21, wr_22, Sum.elim_inl, Sum.elim_inr, ↓reduceIte, Nat.reduceLT, Nat.reduceLeDiff, not_false_eq_true, not_true_eq_false, Nat.reduceEqDiff, Nat.reduceAdd, reduceCtorEq, and_true, true_and, and_false, false_and, false_or, or_false, hρ]
theorem out_111 : outT 111 := Or.inl (by decide)
theorem c_convN (hc : clr σ n B nr S C) : ∃ υ, f_12060 tT σ 100 111 = some υ ∧ fr CS σ υ ∧ cnv υ 113 111 nr S C n B := c_convene hc.1.1 hc.2.1 hc.2.2 out_111 hc.1.2
theorem c_holding {R : Nat} (hc : cnv σ R T nr S C n B) {r : Nat} (hr : r < nr) : ∃ υ, f_2003 tT σ 210 (nI r) = some (nI (hset n B S C r), υ) ∧ fr CS σ υ ∧ cnv υ R T nr S C n B := by
  obtain ⟨υ, q1, q2, q3, q4, q5⟩ := c_survey hc
  have u6 := q3.2.2.2.2.1.1
  refine ⟨υ, ?_, q2, q3, Or.inr ⟨q4, q5⟩⟩
  have a1 : ¬ nI r < nI 0 := by rw [nI_ltI (by omega) (by omega)]; omega
  have a2 : ¬ nI 6 ≤ nI r := by rw [nI_leI (by omega) (by omega)]; omega
  have d1 : vp_in (nI r) 6 := (vp_in_eq (by omega)).mpr (by omega)
  have d2 : (nI r).toNatClampNeg = r := nI_clamp (by omega)
  simp only [f_2003, la_210, la_219, rc_210_3 q3.1, gd_tt, oA_arr, px_obj_s, Option.bind_some, Option.map_some, Option.bind_none, eq_self, true_or, or_true, px_av_0, px_av_1, px_av_2, px_av_10, px_av_11, bn, wi_1, wi_2, wl_1, wl_21, wl_22, wr_1, wr_21, wr_22, Sum.elim_inl, Sum.elim_inr, ↓reduceIte, Nat.reduceLT, Nat.reduceLeDiff, not_false_eq_true, not_true_eq_false, Nat.reduceEqDiff, Nat.reduceAdd, reduceCtorEq, and_true, true_and, and_false, false_and, false_or, or_false, q1, a1, a2, d1, d2, q5 r hr]
theorem hset_t (hn : n ≤ 11) (r : Nat) {h : Nat} (hh : h < n) : (nI (hset n B S C r) &&& (nI 1 <<< (nI h &&& 31)) = nI 0) ↔ rhr n B S C r h = false := by
  have hl := hset_lt (B := B) (S := S) (C := C) hn r
  rw [ni_tst (by omega) (by omega), hset_tb r hh]
theorem a_holds (hc : clr σ n B nr S C) (x y : Int32) : agR σ (f_12007 tT σ 100 x y) (fun τ => f_49 tT τ 0 x y) n B nr S C := by
  have hR := hc.1.1
  have hn := hc.1.2.2.2.2.1.1
  have u6 := hc.2.2.1
  have d0 := hc.2.1.2.2.1
  have l0 := hc.2.1.1.1
  -- the model, when there is no such thing
  have mno : ∀ (_ : ¬ ((0 ≤ x.toInt ∧ x.toInt < nr) ∧ (0 ≤ y.toInt ∧ y.toInt < n))), ∀ τ, mor τ n B nr S C → ∃ υ, f_49 tT τ 0 x y = some (-2, υ) ∧ fk SM τ υ := by
    intro hno τ hm
    refine ⟨_, ?_, fk_thr⟩
    obtain ⟨m1, m2⟩ := mor_thr hm
    obtain ⟨hRm, -, e1, -⟩ := id m1
    have v1 := m2.1
    rw [Nat.zero_add] at v1
    unfold f_49
    generalize px_wi τ 0 0 (nI 0) = ω at m1 m2 hRm e1 v1 ⊢
    have c1 : vp_in (nI 158) 3216 := (vp_in_eq (by omega)).mpr (by omega)
    have c2 : (nI 158).toNatClampNeg = 158 := nI_clamp (by omega)
    have w : f_2 tT ω x.toInt64 (lN 0) (nI nr - nI 1).toInt64 = some (mb (decide (0 ≤ x.toInt ∧ x.toInt < nr))) := by
      rw [e_within]
      congr 2
      have e2 : (nI nr - nI 1).toInt64.toInt = (nr : Int) - 1 := by
        by_cases q : nr = 0
        · subst q; decide
        · rw [ni_subL (by omega), Int32.toInt_toInt64, nI_toInt (by omega)]; omega
      have e3 : decide (lN 0 ≤ x.toInt64) = decide (0 ≤ x.toInt) := decide_eq_decide.mpr (by rw [fa_le64, Int32.toInt_toInt64, pf_lI (by omega)]; rfl)
      have e4 : decide (x.toInt64 ≤ (nI nr - nI 1).toInt64) = decide (x.toInt < nr) := decide_eq_decide.mpr (by rw [fa_le64, Int32.toInt_toInt64, e2]; omega)
      rw [e3, e4, Bool.decide_and]
    by_cases h1 : 0 ≤ x.toInt ∧ x.toInt < nr
    · rw [decide_eq_true h1, mb_t1] at w
      have h2 := e_hs0 m1 (fun q => hno ⟨h1, q⟩)
      simp only [f_49_34, la_0, la_1, rm_0_1 hRm, gd_tt, oA_arr, px_obj_s, Option.bind_some, Option.map_some, Option.bind_none, eq_self, true_or, or_true, px_av_0, px_av_1, px_av_2, px_av_10, px_av_11, bn, wi_1, wi_2, wl_1, wl_21, wl_22, wr_1, wr_21, wr_22, Sum.elim_inl, Sum.elim_inr, ↓reduceIte, Nat.reduceLT, Nat.reduceLeDiff, not_false_eq_true, not_true_eq_false, Nat.reduceEqDiff, Nat.reduceAdd, reduceCtorEq, and_true, true_and, and_false, false_and, false_or, or_false, c1, c2, v1, w, n10, h2]
    · rw [decide_eq_false h1, mb_f0] at w
      simp only [f_49_34, la_0, la_1, rm_0_1 hRm, gd_tt, oA_arr, px_obj_s, Option.bind_some, Option.map_some, Option.bind_none, eq_self, true_or, or_true, px_av_0, px_av_1, px_av_2, px_av_10, px_av_11, bn, wi_1, wi_2, wl_1, wl_21, wl_22, wr_1, wr_21, wr_22, Sum.elim_inl, Sum.elim_inr, ↓reduceIte, Nat.reduceLT, Nat.reduceLeDiff, not_false_eq_true, not_true_eq_false, Nat.reduceEqDiff, Nat.reduceAdd, reduceCtorEq, and_true, true_and, and_false, false_and, false_or, or_false, c1, c2, v1, w]
  rcases rg_cases x 0 (nr - 1) (by omega) with ⟨r, -, hr, rfl⟩ | hno
  · by_cases hnr : nr = 0
    · refine ⟨-2, σ, ?_, fr_rf _ _, mno (fun q => by rw [nI_toInt (by omega)] at q; omega)⟩
      have a1 : ¬ nI r < nI 0 := by rw [nI_ltI (by omega) (by omega)]; omega
      have a2 : nI nr ≤ nI r := by rw [nI_leI (by omega) (by omega)]; omega
      simp only [f_12007, f_12007_32, la_100, la_110, rc_100_0 hR, rc_110_1 hR, l0, d0, a1, a2, gd_tt, oA_arr, px_obj_s, Option.bind_some, Option.map_some, Option.bind_none, eq_self, true_or, or_true, px_av_0, px_av_1, px_av_2, px_av_10, px_av_11, bn, wi_1, wi_2, wl_1, wl_21, wl_22, wr_1, wr_21, wr_22, Sum.elim_inl, Sum.elim_inr, ↓reduceIte, Nat.reduceLT, Nat.reduceLeDiff, not_false_eq_true, not_true_eq_false, Nat.reduceEqDiff, Nat.reduceAdd, reduceCtorEq, and_true, true_and, and_false, false_and, false_or, or_false]
    · have hrn : r < nr := by omega
      have a1 : ¬ nI r < nI 0 := by rw [nI_ltI (by omega) (by omega)]; omega
      have a2 : ¬ nI nr ≤ nI r := by rw [nI_leI (by omega) (by omega)]; omega
      rcases hs_cases y hn with ⟨h, hh, rfl⟩ | hny
      · obtain ⟨υ, q1, q2, q3⟩ := c_convN hc
        obtain ⟨ω, p1, p2, -⟩ := c_holding q3 hrn
        have t1 := hset_t (B := B) (S := S) (C := C) hn r hh
        have hRυ := q3.1.1
        have hh1 := c_hasI hc.1.2 hh
        refine ⟨mb (rhr n B S C r h), ω, ?_, fr_CS (fr_tr q2 p2), fun τ hm => ?_⟩
        · cases hb : rhr n B S C r h with
          | false =>
            have t2 := t1.mpr hb
            simp only [f_12007, f_12007_46, la_100, la_110, la_111, la_210, rc_100_0 hR, rc_110_1 hR, rc_110_0 hR, l0, d0, a1, a2, gd_tt, oA_arr, px_obj_s, Option.bind_some, Option.map_some, Option.bind_none, eq_self, true_or, or_true, px_av_0, px_av_1, px_av_2, px_av_10, px_av_11, bn, wi_1, wi_2, wl_1, wl_21, wl_22, wr_1, wr_21, wr_22, Sum.elim_inl, Sum.elim_inr, ↓reduceIte, Nat.reduceLT, Nat.reduceLeDiff, not_false_eq_true, not_true_eq_false, Nat.reduceEqDiff, Nat.reduceAdd, reduceCtorEq, and_true, true_and, and_false, false_and, false_or, or_false, hh1, n10, q1, rc_100_10 hRυ, p1, t2, mb_f0]
          | true =>
            have t2 : ¬ (nI (hset n B S C r) &&& (nI 1 <<< (nI h &&& 31)) = nI 0) := fun q => by rw [t1, hb] at q; cases q
            simp only [f_12007, f_12007_46, la_100, la_110, la_111, la_210, rc_100_0 hR, rc_110_1 hR, rc_110_0 hR, l0, d0, a1, a2, gd_tt, oA_arr, px_obj_s, Option.bind_some, Option.map_some, Option.bind_none, eq_self, true_or, or_true, px_av_0, px_av_1, px_av_2, px_av_10, px_av_11, bn, wi_1, wi_2, wl_1, wl_21, wl_22, wr_1, wr_21, wr_22, Sum.elim_inl, Sum.elim_inr, ↓reduceIte, Nat.reduceLT, Nat.reduceLeDiff, not_false_eq_true, not_true_eq_false, Nat.reduceEqDiff, Nat.reduceAdd, reduceCtorEq, and_true, true_and, and_false, false_and, false_or, or_false, hh1, n10, q1, rc_100_10 hRυ, p1, t2, mb_t1]
        · obtain ⟨m1, m2⟩ := mor_thr hm
          obtain ⟨hRm, -, e1, -⟩ := id m1
          have v1 := m2.1
          rw [Nat.zero_add] at v1
          obtain ⟨ψ, w1, w2⟩ := e_ruleHolds m1 hc.2.2 m2 hrn hh
          refine ⟨ψ, ?_, fk_tr fk_thr (fk_of (fr_mono w2 SM_rS) SM_1)⟩
          have w0 := e_withinN (px_wi τ 0 0 (nI 0)) (nI r) (lo := 0) (hi := nr - 1) (by omega) (by omega)
          rw [decide_eq_true (by rw [nI_toInt (by omega)]; omega), mb_t1] at w0
          have w3 := e_hs m1 hh
          have s1 : (nI nr - nI 1).toInt64 = lN (nr - 1) := by rw [ni_subL (by omega), nI_l (by omega)]
          have c1 : vp_in (nI 158) 3216 := (vp_in_eq (by omega)).mpr (by omega)
          have c2 : (nI 158).toNatClampNeg = 158 := nI_clamp (by omega)
          show f_49 tT τ 0 (nI r) (nI h) = _
          unfold f_49
          generalize px_wi τ 0 0 (nI 0) = ω at m1 m2 hRm e1 v1 w0 w1 w3 ⊢
          cases hb : rhr n B S C r h with
          | false =>
            rw [hb, mb_f0] at w1
            simp only [f_49_37, la_0, la_1, rm_0_1 hRm, gd_tt, oA_arr, px_obj_s, Option.bind_some, Option.map_some, Option.bind_none, eq_self, true_or, or_true, px_av_0, px_av_1, px_av_2, px_av_10, px_av_11, bn, wi_1, wi_2, wl_1, wl_21, wl_22, wr_1, wr_21, wr_22, Sum.elim_inl, Sum.elim_inr, ↓reduceIte, Nat.reduceLT, Nat.reduceLeDiff, not_false_eq_true, not_true_eq_false, Nat.reduceEqDiff, Nat.reduceAdd, reduceCtorEq, and_true, true_and, and_false, false_and, false_or, or_false, c1, c2, v1, s1, w0, n10, w3, w1, mb_f0]
          | true =>
            rw [hb, mb_t1] at w1
            simp only [f_49_37, la_0, la_1, rm_0_1 hRm, gd_tt, oA_arr, px_obj_s, Option.bind_some, Option.map_some, Option.bind_none, eq_self, true_or, or_true, px_av_0, px_av_1, px_av_2, px_av_10, px_av_11, bn, wi_1, wi_2, wl_1, wl_21, wl_22, wr_1, wr_21, wr_22, Sum.elim_inl, Sum.elim_inr, ↓reduceIte, Nat.reduceLT, Nat.reduceLeDiff, not_false_eq_true, not_true_eq_false, Nat.reduceEqDiff, Nat.reduceAdd, reduceCtorEq, and_true, true_and, and_false, false_and, false_or, or_false, c1, c2, v1, s1, w0, n10, w3, w1, mb_t1]
      · refine ⟨-2, σ, ?_, fr_rf _ _, mno (fun q => hny q.2)⟩
        have hh1 := c_has0 hc.1.2 hny
        simp only [f_12007, f_12007_32, la_100, la_110, la_111, rc_100_0 hR, rc_110_1 hR, rc_110_0 hR, l0, d0, a1, a2, gd_tt, oA_arr, px_obj_s, Option.bind_some, Option.map_some, Option.bind_none, eq_self, true_or, or_true, px_av_0, px_av_1, px_av_2, px_av_10, px_av_11, bn, wi_1, wi_2, wl_1, wl_21, wl_22, wr_1, wr_21, wr_22, Sum.elim_inl, Sum.elim_inr, ↓reduceIte, Nat.reduceLT, Nat.reduceLeDiff, not_false_eq_true, not_true_eq_false, Nat.reduceEqDiff, Nat.reduceAdd, reduceCtorEq, and_true, true_and, and_false, false_and, false_or, or_false, hh1]
  · refine ⟨-2, σ, ?_, fr_rf _ _, mno (fun q => hno (by omega))⟩
    by_cases a1 : x < nI 0
    · simp only [f_12007, f_12007_32, a1, ↓reduceIte]
    · have a2 : nI nr ≤ x := by
        rw [fa_lt, nI_toInt (by omega)] at a1
        rw [fa_le, nI_toInt (by omega)]
        omega
      simp only [f_12007, f_12007_32, la_100, la_110, rc_100_0 hR, rc_110_1 hR, l0, d0, a1, a2, gd_tt, oA_arr, px_obj_s, Option.bind_some, Option.map_some, Option.bind_none, eq_self, true_or, or_true, px_av_0, px_av_1, px_av_2, px_av_10, px_av_11, bn, wi_1, wi_2, wl_1, wl_21, wl_22, wr_1, wr_21, wr_22, Sum.elim_inl, Sum.elim_inr, ↓reduceIte, Nat.reduceLT, Nat.reduceLeDiff, not_false_eq_true, not_true_eq_false, Nat.reduceEqDiff, Nat.reduceAdd, reduceCtorEq, and_true, true_and, and_false, false_and, false_or, or_false]
/-- where the first breach is -/
def brk (n nr : Nat) (f : Nat → Nat → Bool) (w : Nat) (v : Int32) : Prop := (∃ h r, h < n ∧ r < nr ∧ f r h = false ∧ (∀ h', h' < h → ∀ r', r' < nr → f r' h' = true) ∧ (∀ r', r' < r → f r' h = true) ∧ v = if w = 0 then nI h else nI r) ∨ ((∀ h, h < n → ∀ r, r < nr → f r h = true) ∧ v = -1)
theorem brk_uniq {f : Nat → Nat → Bool} {w : Nat} {v v' : Int32} (h1 : brk n nr f w v) (h2 : brk n nr f w v') : v = v' := by
  rcases h1 with ⟨h, r, a1, a2, a3, a4, a5, rfl⟩ | ⟨a1, rfl⟩
  · rcases h2 with ⟨h', r', b1, b2, b3, b4, b5, rfl⟩ | ⟨b1, rfl⟩
    · have e1 : h = h' := by
        rcases Nat.lt_trichotomy h h' with q | q | q
        · have := b4 h q r a2; rw [a3] at this; cases this
        · exact q
        · have := a4 h' q r' b2; rw [b3] at this; cases this
      subst e1
      have e2 : r = r' := by
        rcases Nat.lt_trichotomy r r' with q | q | q
        · have := b5 r q; rw [a3] at this; cases this
        · exact q
        · have := a5 r' q; rw [b3] at this; cases this
      subst e2
      rfl
    · have := b1 h a1 r a2; rw [a3] at this; cases this
  · rcases h2 with ⟨h', r', b1, b2, b3, b4, b5, rfl⟩ | ⟨b1, rfl⟩
    · have := a1 h' b1 r' b2; rw [b3] at this; cases this
    · rfl
theorem c_brk (hc : cnv σ 113 111 nr S C n B) {w : Nat} (hw1 : w ≤ 1) : ∃ b, f_12008_25 tT 100 (nI w) (nI 0) σ = some b ∧ fr CS σ b.2 ∧ brk n nr (rhr n B S C) w b.1 := by
  have hn := hc.1.2.2.2.2.2.2.2.2.2.1.1
  have u6 := hc.1.2.2.2.2.1.1
  unfold f_12008_25
  refine lp_rel (F := fun s : Int32 × px_M => F_12008_25 tT 100 (nI w) s.1 s.2) (fun h q => ∃ ρ, q = (nI h, ρ) ∧ fr CS σ ρ ∧ cnv ρ 113 111 nr S C n B ∧ ∀ h', h' < h → ∀ r, r < nr → rhr n B S C r h' = true) (fun b => fr CS σ b.2 ∧ brk n nr (rhr n B S C) w b.1) n (fun h q hh hI => ?_) 0 (nI 0, σ) (by omega) ⟨σ, rfl, fr_rf _ _, hc, fun _ q => by omega⟩
  obtain ⟨ρ, rfl, g1, g2, g3⟩ := hI
  obtain ⟨c1, -, -, -, -, c7, c8⟩ := id g2.1
  by_cases hhn : h = n
  · subst hhn
    refine Or.inr ⟨(-1, ρ), ?_, g1, Or.inr ⟨g3, rfl⟩⟩
    have a1 : nI h ≤ nI h := by rw [nI_leI (by omega) (by omega)]; omega
    dsimp only
    unfold F_12008_25
    simp only [la_100, la_110, la_111, rc_100_0 c1, rc_110_0 c1, c8.2.2.2.2.1, a1, gd_tt, oA_arr, px_obj_s, Option.bind_some, Option.map_some, Option.bind_none, eq_self, true_or, or_true, px_av_0, px_av_1, px_av_2, px_av_10, px_av_11, bn, wi_1, wi_2, wl_1, wl_21, wl_22, wr_1, wr_21, wr_22, Sum.elim_inl, Sum.elim_inr, ↓reduceIte, Nat.reduceLT, Nat.reduceLeDiff, not_false_eq_true, not_true_eq_false, Nat.reduceEqDiff, Nat.reduceAdd, reduceCtorEq, and_true, true_and, and_false, false_and, false_or, or_false]
  · have hhn' : h < n := by omega
    have inner : ∃ b, f_12008_41 tT 100 (nI w) (nI h) (nI 0) ρ = some b ∧ ((∃ υ, b = .inl (nI (h + 1), υ) ∧ fr CS σ υ ∧ cnv υ 113 111 nr S C n B ∧ ∀ r, r < nr → rhr n B S C r h = true) ∨ (∃ a, b = .inr a ∧ fr CS σ a.2 ∧ brk n nr (rhr n B S C) w a.1)) := by
      unfold f_12008_41
      refine lp_rel (F := fun s : Int32 × px_M => F_12008_41 tT 100 (nI w) (nI h) s.1 s.2) (fun r q => ∃ ρ, q = (nI r, ρ) ∧ fr CS σ ρ ∧ cnv ρ 113 111 nr S C n B ∧ ∀ r', r' < r → rhr n B S C r' h = true) _ nr (fun r q hr hI => ?_) 0 (nI 0, ρ) (by omega) ⟨ρ, rfl, g1, g2, fun _ q => by omega⟩
      obtain ⟨ρ, rfl, g1, g2, g4⟩ := hI
      obtain ⟨c1, -, -, -, -, c7, c8⟩ := id g2.1
      have d0 := c7.2.2.1
      have l0 := c7.1.1
      by_cases hrn : r = nr
      · subst hrn
        refine Or.inr ⟨.inl (nI (h + 1), ρ), ?_, Or.inl ⟨ρ, rfl, g1, g2, g4⟩⟩
        have a1 : nI r ≤ nI r := by rw [nI_leI (by omega) (by omega)]; omega
        dsimp only
        unfold F_12008_41
        simp only [la_100, la_110, rc_100_0 c1, rc_110_1 c1, l0, d0, a1, gd_tt, oA_arr, px_obj_s, Option.bind_some, Option.map_some, Option.bind_none, eq_self, true_or, or_true, px_av_0, px_av_1, px_av_2, px_av_10, px_av_11, bn, wi_1, wi_2, wl_1, wl_21, wl_22, wr_1, wr_21, wr_22, Sum.elim_inl, Sum.elim_inr, ↓reduceIte, Nat.reduceLT, Nat.reduceLeDiff, not_false_eq_true, not_true_eq_false, Nat.reduceEqDiff, Nat.reduceAdd, reduceCtorEq, and_true, true_and, and_false, false_and, false_or, or_false, nI_add]
      · have a1 : ¬ nI nr ≤ nI r := by rw [nI_leI (by omega) (by omega)]; omega
        obtain ⟨υ, p1, p2, p3⟩ := c_holding g2 (show r < nr by omega)
        have t1 := hset_t (B := B) (S := S) (C := C) hn r hhn'
        cases hb : rhr n B S C r h with
        | false =>
          have t2 := t1.mpr hb
          refine Or.inr ⟨.inr (if w = 0 then nI h else nI r, υ), ?_, Or.inr ⟨_, rfl, fr_tr g1 p2, Or.inl ⟨h, r, hhn', by omega, hb, g3, g4, rfl⟩⟩⟩
          dsimp only
          unfold F_12008_41
          by_cases hw0 : w = 0
          · subst hw0
            simp only [la_100, la_110, la_210, rc_100_0 c1, rc_110_1 c1, rc_100_10 c1, l0, d0, a1, gd_tt, oA_arr, px_obj_s, Option.bind_some, Option.map_some, Option.bind_none, eq_self, true_or, or_true, px_av_0, px_av_1, px_av_2, px_av_10, px_av_11, bn, wi_1, wi_2, wl_1, wl_21, wl_22, wr_1, wr_21, wr_22, Sum.elim_inl, Sum.elim_inr, ↓reduceIte, Nat.reduceLT, Nat.reduceLeDiff, not_false_eq_true, not_true_eq_false, Nat.reduceEqDiff, Nat.reduceAdd, reduceCtorEq, and_true, true_and, and_false, false_and, false_or, or_false, p1, t2]
          · have z : ¬ nI w = nI 0 := by rw [nI_eq (by omega) (by omega)]; exact hw0
            simp only [la_100, la_110, la_210, rc_100_0 c1, rc_110_1 c1, rc_100_10 c1, l0, d0, a1, gd_tt, oA_arr, px_obj_s, Option.bind_some, Option.map_some, Option.bind_none, eq_self, true_or, or_true, px_av_0, px_av_1, px_av_2, px_av_10, px_av_11, bn, wi_1, wi_2, wl_1, wl_21, wl_22, wr_1, wr_21, wr_22, Sum.elim_inl, Sum.elim_inr, ↓reduceIte, Nat.reduceLT, Nat.reduceLeDiff, not_false_eq_true, not_true_eq_false, Nat.reduceEqDiff, Nat.reduceAdd, reduceCtorEq, and_true, true_and, and_false, false_and, false_or, or_false, p1, t2, z, hw0]
        | true =>
          have t2 : ¬ (nI (hset n B S C r) &&& (nI 1 <<< (nI h &&& 31)) = nI 0) := fun q => by rw [t1, hb] at q; cases q
          refine Or.inl ⟨(nI (r + 1), υ), ?_, by omega, υ, rfl, fr_tr g1 p2, p3, fun r' hr' => ?_⟩
          · dsimp only
            unfold F_12008_41
            simp only [la_100, la_110, la_210, rc_100_0 c1, rc_110_1 c1, rc_100_10 c1, l0, d0, a1, gd_tt, oA_arr, px_obj_s, Option.bind_some, Option.map_some, Option.bind_none, eq_self, true_or, or_true, px_av_0, px_av_1, px_av_2, px_av_10, px_av_11, bn, wi_1, wi_2, wl_1, wl_21, wl_22, wr_1, wr_21, wr_22, Sum.elim_inl, Sum.elim_inr, ↓reduceIte, Nat.reduceLT, Nat.reduceLeDiff, not_false_eq_true, not_true_eq_false, Nat.reduceEqDiff, Nat.reduceAdd, reduceCtorEq, and_true, true_and, and_false, false_and, false_or, or_false, p1, t2, nI_add]
          · by_cases q : r' = r
            · subst q; exact hb
            · exact g4 r' (by omega)
    obtain ⟨b, q1, q2⟩ := inner
    have a1 : ¬ nI n ≤ nI h := by rw [nI_leI (by omega) (by omega)]; omega
    have hF : F_12008_25 tT 100 (nI w) (nI h) ρ = some b := by
      unfold F_12008_25
      simp only [la_100, la_110, la_111, rc_100_0 c1, rc_110_0 c1, c8.2.2.2.2.1, a1, gd_tt, oA_arr, px_obj_s, Option.bind_some, Option.map_some, Option.bind_none, eq_self, true_or, or_true, px_av_0, px_av_1, px_av_2, px_av_10, px_av_11, bn, wi_1, wi_2, wl_1, wl_21, wl_22, wr_1, wr_21, wr_22, Sum.elim_inl, Sum.elim_inr, ↓reduceIte, Nat.reduceLT, Nat.reduceLeDiff, not_false_eq_true, not_true_eq_false, Nat.reduceEqDiff, Nat.reduceAdd, reduceCtorEq, and_true, true_and, and_false, false_and, false_or, or_false, q1]
    rcases q2 with ⟨υ, rfl, q3, q4, q5⟩ | ⟨a, rfl, q3⟩
    · refine Or.inl ⟨(nI (h + 1), υ), hF, by omega, υ, rfl, q3, q4, fun h' hh' => ?_⟩
      by_cases q : h' = h
      · subst q; exact q5
      · exact g3 h' (by omega)
    · exact Or.inr ⟨a, hF, q3⟩
theorem e_brk (hm : mor σ n B nr S C) (hru : rul nr S C) {w : Nat} (hw1 : w ≤ 1) : ∃ b, f_50_20 tT 0 (nI w) (nI 0) σ = some b ∧ fr rS σ b.2 ∧ brk n nr (rhr n B S C) w b.1 := by
  have hn := hm.1.2.1.1
  have u6 := hru.1
  have k1 : vp_in (nI 1) 3216 := (vp_in_eq (by omega)).mpr (by omega)
  have k2 : (nI 1).toNatClampNeg = 1 := nI_clamp (by omega)
  have k3 : vp_in (nI 158) 3216 := (vp_in_eq (by omega)).mpr (by omega)
  have k4 : (nI 158).toNatClampNeg = 158 := nI_clamp (by omega)
  have hmf : ∀ ρ, fr rS σ ρ → mor ρ n B nr S C := fun ρ h => ⟨mo_rS h hm.1, mru_fr h (fun _ _ => rfl) hm.2⟩
  unfold f_50_20
  refine lp_rel (F := fun s : Int32 × px_M => F_50_20 tT 0 (nI w) s.1 s.2) (fun h q => ∃ ρ, q = (nI h, ρ) ∧ fr rS σ ρ ∧ ∀ h', h' < h → ∀ r, r < nr → rhr n B S C r h' = true) (fun b => fr rS σ b.2 ∧ brk n nr (rhr n B S C) w b.1) n (fun h q hh hI => ?_) 0 (nI 0, σ) (by omega) ⟨σ, rfl, fr_rf _ _, fun _ q => by omega⟩
  obtain ⟨ρ, rfl, g1, g3⟩ := hI
  obtain ⟨hR, -, e1, -⟩ := (hmf ρ g1).1
  by_cases hhn : h = n
  · subst hhn
    refine Or.inr ⟨(-1, ρ), ?_, g1, Or.inr ⟨g3, rfl⟩⟩
    have a1 : nI h ≤ nI h := by rw [nI_leI (by omega) (by omega)]; omega
    dsimp only
    unfold F_50_20
    simp only [la_0, la_1, rm_0_1 hR, k1, k2, e1, a1, gd_tt, oA_arr, px_obj_s, Option.bind_some, Option.map_some, Option.bind_none, eq_self, true_or, or_true, px_av_0, px_av_1, px_av_2, px_av_10, px_av_11, bn, wi_1, wi_2, wl_1, wl_21, wl_22, wr_1, wr_21, wr_22, Sum.elim_inl, Sum.elim_inr, ↓reduceIte, Nat.reduceLT, Nat.reduceLeDiff, not_false_eq_true, not_true_eq_false, Nat.reduceEqDiff, Nat.reduceAdd, reduceCtorEq, and_true, true_and, and_false, false_and, false_or, or_false]
  · have hhn' : h < n := by omega
    have inner : ∃ b, f_50_32 tT 0 (nI w) (nI h) (nI 0) ρ = some b ∧ ((∃ υ, b = .inl (nI (h + 1), υ) ∧ fr rS σ υ ∧ ∀ r, r < nr → rhr n B S C r h = true) ∨ (∃ a, b = .inr a ∧ fr rS σ a.2 ∧ brk n nr (rhr n B S C) w a.1)) := by
      unfold f_50_32
      refine lp_rel (F := fun s : Int32 × px_M => F_50_32 tT 0 (nI w) (nI h) s.1 s.2) (fun r q => ∃ ρ, q = (nI r, ρ) ∧ fr rS σ ρ ∧ ∀ r', r' < r → rhr n B S C r' h = true) _ nr (fun r q hr hI => ?_) 0 (nI 0, ρ) (by omega) ⟨ρ, rfl, g1, fun _ q => by omega⟩
      obtain ⟨ρ, rfl, g1, g4⟩ := hI
      have hmρ := hmf ρ g1
      obtain ⟨hR, -, e1, -⟩ := id hmρ.1
      have v1 := hmρ.2.1
      rw [Nat.zero_add] at v1
      by_cases hrn : r = nr
      · subst hrn
        refine Or.inr ⟨.inl (nI (h + 1), ρ), ?_, Or.inl ⟨ρ, rfl, g1, g4⟩⟩
        have a1 : nI r ≤ nI r := by rw [nI_leI (by omega) (by omega)]; omega
        dsimp only
        unfold F_50_32
        simp only [la_0, la_1, rm_0_1 hR, k3, k4, v1, a1, gd_tt, oA_arr, px_obj_s, Option.bind_some, Option.map_some, Option.bind_none, eq_self, true_or, or_true, px_av_0, px_av_1, px_av_2, px_av_10, px_av_11, bn, wi_1, wi_2, wl_1, wl_21, wl_22, wr_1, wr_21, wr_22, Sum.elim_inl, Sum.elim_inr, ↓reduceIte, Nat.reduceLT, Nat.reduceLeDiff, not_false_eq_true, not_true_eq_false, Nat.reduceEqDiff, Nat.reduceAdd, reduceCtorEq, and_true, true_and, and_false, false_and, false_or, or_false, nI_add]
      · have a1 : ¬ nI nr ≤ nI r := by rw [nI_leI (by omega) (by omega)]; omega
        obtain ⟨υ, p1, p2⟩ := e_ruleHolds hmρ.1 hru hmρ.2 (show r < nr by omega) hhn'
        cases hb : rhr n B S C r h with
        | false =>
          rw [hb, mb_f0] at p1
          refine Or.inr ⟨.inr (if w = 0 then nI h else nI r, υ), ?_, Or.inr ⟨_, rfl, fr_tr g1 p2, Or.inl ⟨h, r, hhn', by omega, hb, g3, g4, rfl⟩⟩⟩
          dsimp only
          unfold F_50_32
          by_cases hw0 : w = 0
          · subst hw0
            simp only [la_0, la_1, rm_0_1 hR, k3, k4, v1, a1, gd_tt, oA_arr, px_obj_s, Option.bind_some, Option.map_some, Option.bind_none, eq_self, true_or, or_true, px_av_0, px_av_1, px_av_2, px_av_10, px_av_11, bn, wi_1, wi_2, wl_1, wl_21, wl_22, wr_1, wr_21, wr_22, Sum.elim_inl, Sum.elim_inr, ↓reduceIte, Nat.reduceLT, Nat.reduceLeDiff, not_false_eq_true, not_true_eq_false, Nat.reduceEqDiff, Nat.reduceAdd, reduceCtorEq, and_true, true_and, and_false, false_and, false_or, or_false, p1]
          · have z : ¬ nI w = nI 0 := by rw [nI_eq (by omega) (by omega)]; exact hw0
            simp only [la_0, la_1, rm_0_1 hR, k3, k4, v1, a1, gd_tt, oA_arr, px_obj_s, Option.bind_some, Option.map_some, Option.bind_none, eq_self, true_or, or_true, px_av_0, px_av_1, px_av_2, px_av_10, px_av_11, bn, wi_1, wi_2, wl_1, wl_21, wl_22, wr_1, wr_21, wr_22, Sum.elim_inl, Sum.elim_inr, ↓reduceIte, Nat.reduceLT, Nat.reduceLeDiff, not_false_eq_true, not_true_eq_false, Nat.reduceEqDiff, Nat.reduceAdd, reduceCtorEq, and_true, true_and, and_false, false_and, false_or, or_false, p1, z, hw0]
        | true =>
          rw [hb, mb_t1] at p1
          refine Or.inl ⟨(nI (r + 1), υ), ?_, by omega, υ, rfl, fr_tr g1 p2, fun r' hr' => ?_⟩
          · dsimp only
            unfold F_50_32
            simp only [la_0, la_1, rm_0_1 hR, k3, k4, v1, a1, gd_tt, oA_arr, px_obj_s, Option.bind_some, Option.map_some, Option.bind_none, eq_self, true_or, or_true, px_av_0, px_av_1, px_av_2, px_av_10, px_av_11, bn, wi_1, wi_2, wl_1, wl_21, wl_22, wr_1, wr_21, wr_22, Sum.elim_inl, Sum.elim_inr, ↓reduceIte, Nat.reduceLT, Nat.reduceLeDiff, not_false_eq_true, not_true_eq_false, Nat.reduceEqDiff, Nat.reduceAdd, reduceCtorEq, and_true, true_and, and_false, false_and, false_or, or_false, p1, n10, nI_add]
          · by_cases q : r' = r
            · subst q; exact hb
            · exact g4 r' (by omega)
    obtain ⟨b, q1, q2⟩ := inner
    have a1 : ¬ nI n ≤ nI h := by rw [nI_leI (by omega) (by omega)]; omega
    have hF : F_50_20 tT 0 (nI w) (nI h) ρ = some b := by
      unfold F_50_20
      simp only [la_0, la_1, rm_0_1 hR, k1, k2, e1, a1, gd_tt, oA_arr, px_obj_s, Option.bind_some, Option.map_some, Option.bind_none, eq_self, true_or, or_true, px_av_0, px_av_1, px_av_2, px_av_10, px_av_11, bn, wi_1, wi_2, wl_1, wl_21, wl_22, wr_1, wr_21, wr_22, Sum.elim_inl, Sum.elim_inr, ↓reduceIte, Nat.reduceLT, Nat.reduceLeDiff, not_false_eq_true, not_true_eq_false, Nat.reduceEqDiff, Nat.reduceAdd, reduceCtorEq, and_true, true_and, and_false, false_and, false_or, or_false, q1]
    rcases q2 with ⟨υ, rfl, q3, q5⟩ | ⟨a, rfl, q3⟩
    · refine Or.inl ⟨(nI (h + 1), υ), hF, by omega, υ, rfl, q3, fun h' hh' => ?_⟩
      by_cases q : h' = h
      · subst q; exact q5
      · exact g3 h' (by omega)
    · exact Or.inr ⟨a, hF, q3⟩
theorem a_broken (hc : clr σ n B nr S C) (x : Int32) : agR σ (f_12008 tT σ 100 x) (fun τ => f_50 tT τ 0 x) n B nr S C := by
  have hR := hc.1.1
  rcases rg_cases x 0 1 (by omega) with ⟨w, -, hw1, rfl⟩ | hno
  · obtain ⟨υ, q1, q2, q3⟩ := c_convN hc
    obtain ⟨⟨v, ω⟩, p1, p2, p3⟩ := c_brk q3 hw1
    dsimp only at p2 p3
    refine ⟨v, ω, ?_, fr_CS (fr_tr q2 p2), fun τ hm => ?_⟩
    · have a1 : ¬ nI w < nI 0 := by rw [nI_ltI (by omega) (by omega)]; omega
      have a2 : nI w ≤ nI 1 := by rw [nI_leI (by omega) (by omega)]; omega
      simp only [f_12008, la_100, la_110, rc_100_0 hR, rc_110_0 hR, a1, a2, gd_tt, oA_arr, px_obj_s, Option.bind_some, Option.map_some, Option.bind_none, eq_self, true_or, or_true, px_av_0, px_av_1, px_av_2, px_av_10, px_av_11, bn, wi_1, wi_2, wl_1, wl_21, wl_22, wr_1, wr_21, wr_22, Sum.elim_inl, Sum.elim_inr, ↓reduceIte, Nat.reduceLT, Nat.reduceLeDiff, not_false_eq_true, not_true_eq_false, Nat.reduceEqDiff, Nat.reduceAdd, reduceCtorEq, and_true, true_and, and_false, false_and, false_or, or_false, q1, p1]
    · have hm' := mor_thr hm
      obtain ⟨⟨v', ψ⟩, w1, w2, w3⟩ := e_brk hm' hc.2.2 hw1
      dsimp only at w2 w3
      have := brk_uniq p3 w3
      subst this
      refine ⟨ψ, ?_, fk_tr fk_thr (fk_of (fr_mono w2 SM_rS) SM_1)⟩
      have w0 := e_withinN (px_wi τ 0 0 (nI 0)) (nI w) (lo := 0) (hi := 1) (by omega) (by omega)
      rw [decide_eq_true (by rw [nI_toInt (by omega)]; omega), mb_t1] at w0
      simp only [f_50, la_0, gd_tt, oA_arr, px_obj_s, Option.bind_some, Option.map_some, Option.bind_none, eq_self, true_or, or_true, px_av_0, px_av_1, px_av_2, px_av_10, px_av_11, bn, wi_1, wi_2, wl_1, wl_21, wl_22, wr_1, wr_21, wr_22, Sum.elim_inl, Sum.elim_inr, ↓reduceIte, Nat.reduceLT, Nat.reduceLeDiff, not_false_eq_true, not_true_eq_false, Nat.reduceEqDiff, Nat.reduceAdd, reduceCtorEq, and_true, true_and, and_false, false_and, false_or, or_false, w0, n10, w1]
  · refine ⟨-2, σ, ?_, fr_rf _ _, fun τ hm => ⟨_, ?_, fk_thr⟩⟩
    · unfold f_12008
      exact rg_no (by omega) (by omega) hno
    · have w0 := e_withinN (px_wi τ 0 0 (nI 0)) x (lo := 0) (hi := 1) (by omega) (by omega)
      rw [decide_eq_false hno, mb_f0] at w0
      simp only [f_50, la_0, gd_tt, oA_arr, px_obj_s, Option.bind_some, Option.map_some, Option.bind_none, eq_self, true_or, or_true, px_av_0, px_av_1, px_av_2, px_av_10, px_av_11, bn, wi_1, wi_2, wl_1, wl_21, wl_22, wr_1, wr_21, wr_22, Sum.elim_inl, Sum.elim_inr, ↓reduceIte, Nat.reduceLT, Nat.reduceLeDiff, not_false_eq_true, not_true_eq_false, Nat.reduceEqDiff, Nat.reduceAdd, reduceCtorEq, and_true, true_and, and_false, false_and, false_or, or_false, w0]
/-- how many breaches -/
noncomputable def brm (n nr : Nat) (B S C : Nat → Nat) : Nat := sm (fun h => sm (fun r => if rhr n B S C r h = true then 0 else 1) nr) n
theorem brm_alt (hn : n ≤ 11) : sm (fun r => n - bc 11 (hset n B S C r)) nr = brm n nr B S C := by
  unfold brm
  rw [sm_swap]
  congr 1
  funext r
  have h1 : bc 11 (hset n B S C r) = sm (fun h => if rhr n B S C r h = true then 1 else 0) n := by
    rw [bc_11 hn (show hset n B S C r < 2 ^ n from bs_2n _ (Nat.le_refl n)), bc_sm]
    apply sm_congr
    intro i hi
    rw [hset_tb r hi]
    cases rhr n B S C r i <;> rfl
  have h2 : sm (fun h => if rhr n B S C r h = true then 1 else 0) n + sm (fun h => if rhr n B S C r h = true then 0 else 1) n = n := by
    rw [← sm_add]
    have : (fun i => (if rhr n B S C r i = true then 1 else 0) + (if rhr n B S C r i = true then 0 else 1)) = fun _ => 1 := by
      funext i
      split <;> rfl
    rw [this, sm_one, Nat.one_mul]
  rw [h1]
  omega
theorem brm_le (hn : n ≤ 11) (hr : nr ≤ 6) : brm n nr B S C ≤ 66 := by
  unfold brm
  have h1 : ∀ h, sm (fun r => if rhr n B S C r h = true then 0 else 1) nr ≤ 6 := fun h => by
    have := sm_le (f := fun r => if rhr n B S C r h = true then 0 else 1) (c := 1) (fun j => by split <;> omega) nr
    omega
  have := sm_le (f := fun h => sm (fun r => if rhr n B S C r h = true then 0 else 1) nr) (c := 6) h1 n
  omega
theorem a_breaches (hc : clr σ n B nr S C) : agR σ (f_12009 tT σ 100) (fun τ => f_51 tT τ 0) n B nr S C := by
  have hR := hc.1.1
  have hn := hc.1.2.2.2.2.1.1
  have u6 := hc.2.2.1
  have hru := hc.2.2
  obtain ⟨υ, q1, q2, q3⟩ := c_convN hc
  have lc : ∃ b, f_12009_15 tT 100 (nI 0) (nI 0) υ = some b ∧ ∃ ω, b = (nI (brm n nr B S C), ω) ∧ fr CS υ ω := by
    unfold f_12009_15
    refine lp_for (F := fun s : Int32 × Int32 × px_M => F_12009_15 tT 100 s.1 s.2.1 s.2.2) (fun r q => ∃ ρ, q = (nI (sm (fun r => n - bc 11 (hset n B S C r)) r), nI r, ρ) ∧ fr CS υ ρ ∧ cnv ρ 113 111 nr S C n B) (fun b => ∃ ω, b = (nI (brm n nr B S C), ω) ∧ fr CS υ ω) nr (fun r q hr hI => ?_) (fun q hI => ?_) 0 (nI 0, nI 0, υ) (by omega) ⟨υ, rfl, fr_rf _ _, q3⟩
    · obtain ⟨ρ, rfl, g1, g2⟩ := hI
      obtain ⟨ω, p1, p2, p3⟩ := c_holding g2 hr
      obtain ⟨c1, -, -, -, -, c7, c8⟩ := id g2.1
      have a1 : ¬ nI nr ≤ nI r := by rw [nI_leI (by omega) (by omega)]; omega
      have hl := hset_lt (B := B) (S := S) (C := C) hn r
      have hb : bc 11 (hset n B S C r) ≤ n := by
        rw [bc_11 hn (show hset n B S C r < 2 ^ n from bs_2n _ (Nat.le_refl n))]; exact bc_le n _
      have hS : sm (fun r => n - bc 11 (hset n B S C r)) (r + 1) = sm (fun r => n - bc 11 (hset n B S C r)) r + (n - bc 11 (hset n B S C r)) := rfl
      rw [hS]
      generalize sm (fun r => n - bc 11 (hset n B S C r)) r = z
      refine ⟨(nI (z + (n - bc 11 (hset n B S C r))), nI (r + 1), ω), ?_, ω, rfl, fr_tr g1 p2, p3⟩
      dsimp only
      unfold F_12009_15 f_12009_54
      simp only [la_100, la_110, la_111, la_210, rc_100_0 c1, rc_110_0 c1, rc_110_1 c1, rc_100_10 c1, c7.1.1, c7.2.2.1, c8.2.2.2.2.1, a1, gd_tt, oA_arr, px_obj_s, Option.bind_some, Option.map_some, Option.bind_none, eq_self, true_or, or_true, px_av_0, px_av_1, px_av_2, px_av_10, px_av_11, bn, wi_1, wi_2, wl_1, wl_21, wl_22, wr_1, wr_21, wr_22, Sum.elim_inl, Sum.elim_inr, ↓reduceIte, Nat.reduceLT, Nat.reduceLeDiff, not_false_eq_true, not_true_eq_false, Nat.reduceEqDiff, Nat.reduceAdd, reduceCtorEq, and_true, true_and, and_false, false_and, false_or, or_false, p1, e_bitCount _ hl, ni_subL hb, nI_add]
    · obtain ⟨ρ, rfl, g1, g2⟩ := hI
      obtain ⟨c1, -, -, -, -, c7, c8⟩ := id g2.1
      have a1 : nI nr ≤ nI nr := by rw [nI_leI (by omega) (by omega)]; omega
      refine ⟨(nI (brm n nr B S C), ρ), ?_, ρ, rfl, g1⟩
      rw [brm_alt hn]
      dsimp only
      unfold F_12009_15
      simp only [la_100, la_110, rc_100_0 c1, rc_110_1 c1, c7.1.1, c7.2.2.1, a1, gd_tt, oA_arr, px_obj_s, Option.bind_some, Option.map_some, Option.bind_none, eq_self, true_or, or_true, px_av_0, px_av_1, px_av_2, px_av_10, px_av_11, bn, wi_1, wi_2, wl_1, wl_21, wl_22, wr_1, wr_21, wr_22, Sum.elim_inl, Sum.elim_inr, ↓reduceIte, Nat.reduceLT, Nat.reduceLeDiff, not_false_eq_true, not_true_eq_false, Nat.reduceEqDiff, Nat.reduceAdd, reduceCtorEq, and_true, true_and, and_false, false_and, false_or, or_false]
  obtain ⟨b, p1, ω, rfl, p2⟩ := lc
  refine ⟨nI (brm n nr B S C), ω, ?_, fr_CS (fr_tr q2 p2), fun τ hm => ?_⟩
  · simp only [f_12009, la_100, la_110, rc_100_0 hR, rc_110_0 hR, gd_tt, oA_arr, px_obj_s, Option.bind_some, Option.map_some, Option.bind_none, eq_self, true_or, or_true, px_av_0, px_av_1, px_av_2, px_av_10, px_av_11, bn, wi_1, wi_2, wl_1, wl_21, wl_22, wr_1, wr_21, wr_22, Sum.elim_inl, Sum.elim_inr, ↓reduceIte, Nat.reduceLT, Nat.reduceLeDiff, not_false_eq_true, not_true_eq_false, Nat.reduceEqDiff, Nat.reduceAdd, reduceCtorEq, and_true, true_and, and_false, false_and, false_or, or_false, q1, p1]
  · have k1 : vp_in (nI 1) 3216 := (vp_in_eq (by omega)).mpr (by omega)
    have k2 : (nI 1).toNatClampNeg = 1 := nI_clamp (by omega)
    have k3 : vp_in (nI 158) 3216 := (vp_in_eq (by omega)).mpr (by omega)
    have k4 : (nI 158).toNatClampNeg = 158 := nI_clamp (by omega)
    have lm : ∀ τ, mor τ n B nr S C → ∃ b, f_51_9 tT 0 (nI 0) (nI 0) τ = some b ∧ ∃ ω, b = (nI (brm n nr B S C), ω) ∧ fr rS τ ω := by
      intro τ hm
      have hmf : ∀ ρ, fr rS τ ρ → mor ρ n B nr S C := fun ρ h => ⟨mo_rS h hm.1, mru_fr h (fun _ _ => rfl) hm.2⟩
      unfold f_51_9
      refine lp_for (F := fun s : Int32 × Int32 × px_M => F_51_9 tT 0 s.1 s.2.1 s.2.2) (fun h q => ∃ ρ, q = (nI (sm (fun h => sm (fun r => if rhr n B S C r h = true then 0 else 1) nr) h), nI h, ρ) ∧ fr rS τ ρ) (fun b => ∃ ω, b = (nI (brm n nr B S C), ω) ∧ fr rS τ ω) n (fun h q hh hI => ?_) (fun q hI => ?_) 0 (nI 0, nI 0, τ) (by omega) ⟨τ, rfl, fr_rf _ _⟩
      · obtain ⟨ρ, rfl, g1⟩ := hI
        have hS : sm (fun h => sm (fun r => if rhr n B S C r h = true then 0 else 1) nr) (h + 1) = sm (fun h => sm (fun r => if rhr n B S C r h = true then 0 else 1) nr) h + sm (fun r => if rhr n B S C r h = true then 0 else 1) nr := rfl
        rw [hS]
        generalize sm (fun h => sm (fun r => if rhr n B S C r h = true then 0 else 1) nr) h = z
        have inner : ∃ b, f_51_21 tT 0 (nI h) (nI z) (nI 0) ρ = some b ∧ ∃ ω, b = .inl (nI (z + sm (fun r => if rhr n B S C r h = true then 0 else 1) nr), nI (h + 1), ω) ∧ fr rS τ ω := by
          unfold f_51_21
          refine lp_for (F := fun s : Int32 × Int32 × px_M => F_51_21 tT 0 (nI h) s.1 s.2.1 s.2.2) (fun r q => ∃ ρ, q = (nI (z + sm (fun r => if rhr n B S C r h = true then 0 else 1) r), nI r, ρ) ∧ fr rS τ ρ) _ nr (fun r q hr hI => ?_) (fun q hI => ?_) 0 (nI z, nI 0, ρ) (by omega) ⟨ρ, rfl, g1⟩
          · obtain ⟨ρ, rfl, g1⟩ := hI
            have hmρ := hmf ρ g1
            obtain ⟨hRm, -, e1, -⟩ := id hmρ.1
            have v1 := hmρ.2.1
            rw [Nat.zero_add] at v1
            obtain ⟨ω, w1, w2⟩ := e_ruleHolds hmρ.1 hru hmρ.2 hr hh
            have hS2 : sm (fun r => if rhr n B S C r h = true then 0 else 1) (r + 1) = sm (fun r => if rhr n B S C r h = true then 0 else 1) r + (if rhr n B S C r h = true then 0 else 1) := rfl
            rw [hS2]
            generalize sm (fun r => if rhr n B S C r h = true then 0 else 1) r = y
            have a1 : ¬ nI nr ≤ nI r := by rw [nI_leI (by omega) (by omega)]; omega
            refine ⟨(nI (z + (y + (if rhr n B S C r h = true then 0 else 1))), nI (r + 1), ω), ?_, ω, rfl, fr_tr g1 w2⟩
            dsimp only
            unfold F_51_21 f_51_50
            cases hb : rhr n B S C r h with
            | false =>
              rw [hb, mb_f0] at w1
              simp only [la_0, la_1, rm_0_1 hRm, k3, k4, v1, a1, gd_tt, oA_arr, px_obj_s, Option.bind_some, Option.map_some, Option.bind_none, eq_self, true_or, or_true, px_av_0, px_av_1, px_av_2, px_av_10, px_av_11, bn, wi_1, wi_2, wl_1, wl_21, wl_22, wr_1, wr_21, wr_22, Sum.elim_inl, Sum.elim_inr, ↓reduceIte, Nat.reduceLT, Nat.reduceLeDiff, not_false_eq_true, not_true_eq_false, Nat.reduceEqDiff, Nat.reduceAdd, reduceCtorEq, and_true, true_and, and_false, false_and, false_or, or_false, w1, nI_add, Bool.false_eq_true, Nat.add_assoc]
            | true =>
              rw [hb, mb_t1] at w1
              simp only [la_0, la_1, rm_0_1 hRm, k3, k4, v1, a1, gd_tt, oA_arr, px_obj_s, Option.bind_some, Option.map_some, Option.bind_none, eq_self, true_or, or_true, px_av_0, px_av_1, px_av_2, px_av_10, px_av_11, bn, wi_1, wi_2, wl_1, wl_21, wl_22, wr_1, wr_21, wr_22, Sum.elim_inl, Sum.elim_inr, ↓reduceIte, Nat.reduceLT, Nat.reduceLeDiff, not_false_eq_true, not_true_eq_false, Nat.reduceEqDiff, Nat.reduceAdd, reduceCtorEq, and_true, true_and, and_false, false_and, false_or, or_false, w1, n10, nI_add, Nat.add_assoc]
          · obtain ⟨ρ, rfl, g1⟩ := hI
            have hmρ := hmf ρ g1
            obtain ⟨hRm, -, e1, -⟩ := id hmρ.1
            have v1 := hmρ.2.1
            rw [Nat.zero_add] at v1
            have a1 : nI nr ≤ nI nr := by rw [nI_leI (by omega) (by omega)]; omega
            refine ⟨_, ?_, ρ, rfl, g1⟩
            generalize sm (fun r => if rhr n B S C r h = true then 0 else 1) nr = y
            dsimp only
            unfold F_51_21
            simp only [la_0, la_1, rm_0_1 hRm, k3, k4, v1, a1, gd_tt, oA_arr, px_obj_s, Option.bind_some, Option.map_some, Option.bind_none, eq_self, true_or, or_true, px_av_0, px_av_1, px_av_2, px_av_10, px_av_11, bn, wi_1, wi_2, wl_1, wl_21, wl_22, wr_1, wr_21, wr_22, Sum.elim_inl, Sum.elim_inr, ↓reduceIte, Nat.reduceLT, Nat.reduceLeDiff, not_false_eq_true, not_true_eq_false, Nat.reduceEqDiff, Nat.reduceAdd, reduceCtorEq, and_true, true_and, and_false, false_and, false_or, or_false, nI_add]
        obtain ⟨b, w1, ω, rfl, w2⟩ := inner
        have hmρ := hmf ρ g1
        obtain ⟨hRm, -, e1, -⟩ := id hmρ.1
        have a1 : ¬ nI n ≤ nI h := by rw [nI_leI (by omega) (by omega)]; omega
        refine ⟨_, ?_, ω, rfl, w2⟩
        dsimp only
        unfold F_51_9
        simp only [la_0, la_1, rm_0_1 hRm, k1, k2, e1, a1, gd_tt, oA_arr, px_obj_s, Option.bind_some, Option.map_some, Option.bind_none, eq_self, true_or, or_true, px_av_0, px_av_1, px_av_2, px_av_10, px_av_11, bn, wi_1, wi_2, wl_1, wl_21, wl_22, wr_1, wr_21, wr_22, Sum.elim_inl, Sum.elim_inr, ↓reduceIte, Nat.reduceLT, Nat.reduceLeDiff, not_false_eq_true, not_true_eq_false, Nat.reduceEqDiff, Nat.reduceAdd, reduceCtorEq, and_true, true_and, and_false, false_and, false_or, or_false, w1]
      · obtain ⟨ρ, rfl, g1⟩ := hI
        have hmρ := hmf ρ g1
        obtain ⟨hRm, -, e1, -⟩ := id hmρ.1
        have a1 : nI n ≤ nI n := by rw [nI_leI (by omega) (by omega)]; omega
        refine ⟨(nI (brm n nr B S C), ρ), ?_, ρ, rfl, g1⟩
        unfold brm
        dsimp only
        unfold F_51_9
        simp only [la_0, la_1, rm_0_1 hRm, k1, k2, e1, a1, gd_tt, oA_arr, px_obj_s, Option.bind_some, Option.map_some, Option.bind_none, eq_self, true_or, or_true, px_av_0, px_av_1, px_av_2, px_av_10, px_av_11, bn, wi_1, wi_2, wl_1, wl_21, wl_22, wr_1, wr_21, wr_22, Sum.elim_inl, Sum.elim_inr, ↓reduceIte, Nat.reduceLT, Nat.reduceLeDiff, not_false_eq_true, not_true_eq_false, Nat.reduceEqDiff, Nat.reduceAdd, reduceCtorEq, and_true, true_and, and_false, false_and, false_or, or_false]
    obtain ⟨b, w1, ψ, rfl, w2⟩ := lm _ (mor_thr hm)
    refine ⟨ψ, ?_, fk_tr fk_thr (fk_of (fr_mono w2 SM_rS) SM_1)⟩
    simp only [f_51, la_0, gd_tt, oA_arr, px_obj_s, Option.bind_some, Option.map_some, Option.bind_none, eq_self, true_or, or_true, px_av_0, px_av_1, px_av_2, px_av_10, px_av_11, bn, wi_1, wi_2, wl_1, wl_21, wl_22, wr_1, wr_21, wr_22, Sum.elim_inl, Sum.elim_inr, ↓reduceIte, Nat.reduceLT, Nat.reduceLeDiff, not_false_eq_true, not_true_eq_false, Nat.reduceEqDiff, Nat.reduceAdd, reduceCtorEq, and_true, true_and, and_false, false_and, false_or, or_false, w1]
/-- two numbers: a pair of houses, or none -/
theorem pr_cases (x y : Int32) (hn : n ≤ 11) : (∃ a b, a < n ∧ b < n ∧ a ≠ b ∧ x = nI a ∧ y = nI b) ∨ ((¬ (0 ≤ x.toInt ∧ x.toInt < n)) ∨ (¬ (0 ≤ y.toInt ∧ y.toInt < n)) ∨ x = y) := by
  rcases hs_cases x hn with ⟨a, ha, rfl⟩ | h
  · rcases hs_cases y hn with ⟨b, hb, rfl⟩ | h
    · by_cases q : a = b
      · exact Or.inr (Or.inr (Or.inr (by rw [q])))
      · exact Or.inl ⟨a, b, ha, hb, q, rfl, rfl⟩
    · exact Or.inr (Or.inr (Or.inl h))
  · exact Or.inr (Or.inl h)
theorem c_pr0 (hc : ct σ T n B) {x y : Int32} (h : (¬ (0 ≤ x.toInt ∧ x.toInt < n)) ∨ (¬ (0 ≤ y.toInt ∧ y.toInt < n)) ∨ x = y) : f_11003 tT σ T x y = some (nI 0) := by
  have hn := hc.2.2.2.1.1
  rcases hs_cases x hn with ⟨a, ha, rfl⟩ | h1
  · have k1 := c_hasI hc ha
    rcases hs_cases y hn with ⟨b, hb, rfl⟩ | h2
    · have k2 := c_hasI hc hb
      have hab : nI a = nI b := by
        rcases h with h | h | h
        · exact absurd (by rw [nI_toInt (by omega)]; omega) h
        · exact absurd (by rw [nI_toInt (by omega)]; omega) h
        · exact h
      simp only [f_11003, f_11003_25, hc.1, gd_tt, oA_arr, px_obj_s, Option.bind_some, Option.map_some, Option.bind_none, eq_self, true_or, or_true, px_av_0, px_av_1, px_av_2, px_av_10, px_av_11, bn, wi_1, wi_2, wl_1, wl_21, wl_22, wr_1, wr_21, wr_22, Sum.elim_inl, Sum.elim_inr, ↓reduceIte, Nat.reduceLT, Nat.reduceLeDiff, not_false_eq_true, not_true_eq_false, Nat.reduceEqDiff, Nat.reduceAdd, reduceCtorEq, and_true, true_and, and_false, false_and, false_or, or_false, k1, k2, n10, hab]
    · have k2 := c_has0 hc h2
      simp only [f_11003, f_11003_25, hc.1, gd_tt, oA_arr, px_obj_s, Option.bind_some, Option.map_some, Option.bind_none, eq_self, true_or, or_true, px_av_0, px_av_1, px_av_2, px_av_10, px_av_11, bn, wi_1, wi_2, wl_1, wl_21, wl_22, wr_1, wr_21, wr_22, Sum.elim_inl, Sum.elim_inr, ↓reduceIte, Nat.reduceLT, Nat.reduceLeDiff, not_false_eq_true, not_true_eq_false, Nat.reduceEqDiff, Nat.reduceAdd, reduceCtorEq, and_true, true_and, and_false, false_and, false_or, or_false, k1, k2, n10]
  · have k1 := c_has0 hc h1
    simp only [f_11003, f_11003_25, hc.1, gd_tt, oA_arr, px_obj_s, Option.bind_some, Option.map_some, Option.bind_none, eq_self, true_or, or_true, px_av_0, px_av_1, px_av_2, px_av_10, px_av_11, bn, wi_1, wi_2, wl_1, wl_21, wl_22, wr_1, wr_21, wr_22, Sum.elim_inl, Sum.elim_inr, ↓reduceIte, Nat.reduceLT, Nat.reduceLeDiff, not_false_eq_true, not_true_eq_false, Nat.reduceEqDiff, Nat.reduceAdd, reduceCtorEq, and_true, true_and, and_false, false_and, false_or, or_false, k1]
theorem e_rj1 (hm : mo σ n B) {x y : Int32} (h : (¬ (0 ≤ x.toInt ∧ x.toInt < n)) ∨ (¬ (0 ≤ y.toInt ∧ y.toInt < n)) ∨ x = y) : f_57 tT σ 0 x.toInt64 y.toInt64 = some (nI 1, σ) := by
  have hn := hm.2.1.1
  rcases hs_cases x hn with ⟨a, ha, rfl⟩ | h1
  · have k1 := e_hs hm ha
    rcases hs_cases y hn with ⟨b, hb, rfl⟩ | h2
    · have k2 := e_hs hm hb
      have hab : nI a = nI b := by
        rcases h with h | h | h
        · exact absurd (by rw [nI_toInt (by omega)]; omega) h
        · exact absurd (by rw [nI_toInt (by omega)]; omega) h
        · exact h
      rw [hab] at k1 ⊢
      simp only [f_57, f_57_16, f_57_22, la_0, gd_tt, oA_arr, px_obj_s, Option.bind_some, Option.map_some, Option.bind_none, eq_self, true_or, or_true, px_av_0, px_av_1, px_av_2, px_av_10, px_av_11, bn, wi_1, wi_2, wl_1, wl_21, wl_22, wr_1, wr_21, wr_22, Sum.elim_inl, Sum.elim_inr, ↓reduceIte, Nat.reduceLT, Nat.reduceLeDiff, not_false_eq_true, not_true_eq_false, Nat.reduceEqDiff, Nat.reduceAdd, reduceCtorEq, and_true, true_and, and_false, false_and, false_or, or_false, k1, k2, n10]
    · have k2 := e_hs0 hm h2
      simp only [f_57, f_57_22, la_0, gd_tt, oA_arr, px_obj_s, Option.bind_some, Option.map_some, Option.bind_none, eq_self, true_or, or_true, px_av_0, px_av_1, px_av_2, px_av_10, px_av_11, bn, wi_1, wi_2, wl_1, wl_21, wl_22, wr_1, wr_21, wr_22, Sum.elim_inl, Sum.elim_inr, ↓reduceIte, Nat.reduceLT, Nat.reduceLeDiff, not_false_eq_true, not_true_eq_false, Nat.reduceEqDiff, Nat.reduceAdd, reduceCtorEq, and_true, true_and, and_false, false_and, false_or, or_false, k1, k2, n10]
  · have k1 := e_hs0 hm h1
    simp only [f_57, f_57_22, la_0, gd_tt, oA_arr, px_obj_s, Option.bind_some, Option.map_some, Option.bind_none, eq_self, true_or, or_true, px_av_0, px_av_1, px_av_2, px_av_10, px_av_11, bn, wi_1, wi_2, wl_1, wl_21, wl_22, wr_1, wr_21, wr_22, Sum.elim_inl, Sum.elim_inr, ↓reduceIte, Nat.reduceLT, Nat.reduceLeDiff, not_false_eq_true, not_true_eq_false, Nat.reduceEqDiff, Nat.reduceAdd, reduceCtorEq, and_true, true_and, and_false, false_and, false_or, or_false, k1]
/-- what is against a door, of any numbers -/
noncomputable def rjx (n : Nat) (B : Nat → Nat) (nr : Nat) (S C : Nat → Nat) (x y : Int32) : Nat := if (0 ≤ x.toInt ∧ x.toInt < n) ∧ (0 ≤ y.toInt ∧ y.toInt < n) ∧ x ≠ y then rj n B nr S C x.toInt.toNat y.toInt.toNat else 1
theorem rjx_in {a b : Nat} (hn : n ≤ 11) (ha : a < n) (hb : b < n) (hab : a ≠ b) : rjx n B nr S C (nI a) (nI b) = rj n B nr S C a b := by
  unfold rjx
  have h1 : (nI a).toInt = a := nI_toInt (by omega)
  have h2 : (nI b).toInt = b := nI_toInt (by omega)
  rw [h1, h2, if_pos ⟨by omega, by omega, fun q => hab ((nI_eq (by omega) (by omega)).mp q)⟩]
  rfl
theorem rjx_out {x y : Int32} (h : (¬ (0 ≤ x.toInt ∧ x.toInt < n)) ∨ (¬ (0 ≤ y.toInt ∧ y.toInt < n)) ∨ x = y) : rjx n B nr S C x y = 1 := by
  unfold rjx
  rw [if_neg]
  rintro ⟨h1, h2, h3⟩
  rcases h with h | h | h
  · exact h h1
  · exact h h2
  · exact h3 h
theorem c_rjx {R : Nat} (hc : cnv σ R T nr S C n B) (x y : Int32) : ∃ υ, f_2005 tT σ 210 x y = some (nI (rjx n B nr S C x y), υ) ∧ fr CS σ υ ∧ cnv υ R T nr S C n B := by
  have c8 := hc.1.2.2.2.2.2.2
  have hn := c8.2.2.2.1.1
  rcases pr_cases (n := n) x y hn with ⟨a, b, ha, hb, hab, rfl, rfl⟩ | h
  · rw [rjx_in hn ha hb hab]; exact c_rj hc ha hb hab
  · rw [rjx_out h]; exact ⟨σ, c_rj1 hc (c_pr0 c8 h), fr_rf _ _, hc⟩
theorem e_rjx (hm : mor σ n B nr S C) (hru : rul nr S C) (x y : Int32) : ∃ υ, f_57 tT σ 0 x.toInt64 y.toInt64 = some (nI (rjx n B nr S C x y), υ) ∧ fk RQ σ υ := by
  have hn := hm.1.2.1.1
  rcases pr_cases (n := n) x y hn with ⟨a, b, ha, hb, hab, rfl, rfl⟩ | h
  · rw [rjx_in hn ha hb hab, nI_l (by omega), nI_l (by omega)]; exact e_rj hm.1 hru hm.2 ha hb hab
  · rw [rjx_out h]; exact ⟨σ, e_rj1 hm.1 h, fk_rf _ _⟩
theorem rj_le {a b : Nat} : rj n B nr S C a b ≤ 4 := by
  unfold rj
  repeat' split
  all_goals omega
theorem rjx_le (x y : Int32) : rjx n B nr S C x y ≤ 4 := by
  unfold rjx
  split
  · exact rj_le
  · omega
theorem a_why (hc : clr σ n B nr S C) (x y : Int32) : agR σ (f_12010 tT σ 100 x y) (fun τ => f_60 tT τ 0 x y) n B nr S C := by
  have hR := hc.1.1
  obtain ⟨υ, q1, q2, q3⟩ := c_convN hc
  obtain ⟨ω, p1, p2, -⟩ := c_rjx q3 x y
  refine ⟨nI (rjx n B nr S C x y), ω, ?_, fr_CS (fr_tr q2 p2), fun τ hm => ?_⟩
  · simp only [f_12010, la_100, la_110, la_210, rc_100_0 hR, rc_110_0 hR, gd_tt, oA_arr, px_obj_s, Option.bind_some, Option.map_some, Option.bind_none, eq_self, true_or, or_true, px_av_0, px_av_1, px_av_2, px_av_10, px_av_11, bn, wi_1, wi_2, wl_1, wl_21, wl_22, wr_1, wr_21, wr_22, Sum.elim_inl, Sum.elim_inr, ↓reduceIte, Nat.reduceLT, Nat.reduceLeDiff, not_false_eq_true, not_true_eq_false, Nat.reduceEqDiff, Nat.reduceAdd, reduceCtorEq, and_true, true_and, and_false, false_and, false_or, or_false, q1, rc_100_10 q3.1.1, p1]
  · obtain ⟨ψ, w1, w2⟩ := e_rjx (mor_thr hm) hc.2.2 x y
    refine ⟨ψ, ?_, fk_tr fk_thr (fk_mono w2 SM_RQ)⟩
    simp only [f_60, la_0, gd_tt, oA_arr, px_obj_s, Option.bind_some, Option.map_some, Option.bind_none, eq_self, true_or, or_true, px_av_0, px_av_1, px_av_2, px_av_10, px_av_11, bn, wi_1, wi_2, wl_1, wl_21, wl_22, wr_1, wr_21, wr_22, Sum.elim_inl, Sum.elim_inr, ↓reduceIte, Nat.reduceLT, Nat.reduceLeDiff, not_false_eq_true, not_true_eq_false, Nat.reduceEqDiff, Nat.reduceAdd, reduceCtorEq, and_true, true_and, and_false, false_and, false_or, or_false, w1]
theorem a_may (hc : clr σ n B nr S C) (x : Int32) : agR σ (f_12013 tT σ 100 x) (fun τ => f_63 tT τ 0 x) n B nr S C := by
  have hR := hc.1.1
  have hn := hc.1.2.2.2.2.1.1
  have hru := hc.2.2
  rcases hs_cases x hn with ⟨h, hh, rfl⟩ | hno
  · have k1 := c_hasI hc.1.2 hh
    obtain ⟨υ, q1, q2, q3⟩ := c_convN hc
    have lc : ∃ b, f_12013_32 tT 100 (nI h) (nI 0) (nI 0) υ = some b ∧ ∃ ω, b = (nI (bs (fun k => decide (rjx n B nr S C (nI h) (nI k) = 0)) n), ω) ∧ fr CS υ ω := by
      unfold f_12013_32
      refine lp_for (F := fun s : Int32 × Int32 × px_M => F_12013_32 tT 100 (nI h) s.1 s.2.1 s.2.2) (fun k q => ∃ ρ, q = (nI (bs (fun k => decide (rjx n B nr S C (nI h) (nI k) = 0)) k), nI k, ρ) ∧ fr CS υ ρ ∧ cnv ρ 113 111 nr S C n B) (fun b => ∃ ω, b = (nI (bs (fun k => decide (rjx n B nr S C (nI h) (nI k) = 0)) n), ω) ∧ fr CS υ ω) n (fun k q hk hI => ?_) (fun q hI => ?_) 0 (nI 0, nI 0, υ) (by omega) ⟨υ, rfl, fr_rf _ _, q3⟩
      · obtain ⟨ρ, rfl, g1, g2⟩ := hI
        obtain ⟨ω, p1, p2, p3⟩ := c_rjx g2 (nI h) (nI k)
        obtain ⟨c1, -, -, -, -, c7, c8⟩ := id g2.1
        have a1 : ¬ nI n ≤ nI k := by rw [nI_leI (by omega) (by omega)]; omega
        have hle := rjx_le (n := n) (B := B) (nr := nr) (S := S) (C := C) (nI h) (nI k)
        rw [bs_S]
        generalize bs (fun k => decide (rjx n B nr S C (nI h) (nI k) = 0)) k = z
        generalize hq : rjx n B nr S C (nI h) (nI k) = y at p1 hle
        refine ⟨(nI (z ||| (if decide (y = 0) = true then 2 ^ k else 0)), nI (k + 1), ω), ?_, ω, rfl, fr_tr g1 p2, p3⟩
        dsimp only
        unfold F_12013_32 f_12013_64
        by_cases hy : y = 0
        · subst hy
          simp only [la_100, la_110, la_111, la_210, rc_100_0 c1, rc_110_0 c1, rc_100_10 c1, c8.2.2.2.2.1, a1, gd_tt, oA_arr, px_obj_s, Option.bind_some, Option.map_some, Option.bind_none, eq_self, true_or, or_true, px_av_0, px_av_1, px_av_2, px_av_10, px_av_11, bn, wi_1, wi_2, wl_1, wl_21, wl_22, wr_1, wr_21, wr_22, Sum.elim_inl, Sum.elim_inr, ↓reduceIte, Nat.reduceLT, Nat.reduceLeDiff, not_false_eq_true, not_true_eq_false, Nat.reduceEqDiff, Nat.reduceAdd, reduceCtorEq, and_true, true_and, and_false, false_and, false_or, or_false, p1, ni_1s (show k < 31 by omega), fa_or, nI_add, decide_true]
        · have z0 : ¬ nI y = nI 0 := by rw [nI_eq (by omega) (by omega)]; exact hy
          simp only [la_100, la_110, la_111, la_210, rc_100_0 c1, rc_110_0 c1, rc_100_10 c1, c8.2.2.2.2.1, a1, gd_tt, oA_arr, px_obj_s, Option.bind_some, Option.map_some, Option.bind_none, eq_self, true_or, or_true, px_av_0, px_av_1, px_av_2, px_av_10, px_av_11, bn, wi_1, wi_2, wl_1, wl_21, wl_22, wr_1, wr_21, wr_22, Sum.elim_inl, Sum.elim_inr, ↓reduceIte, Nat.reduceLT, Nat.reduceLeDiff, not_false_eq_true, not_true_eq_false, Nat.reduceEqDiff, Nat.reduceAdd, reduceCtorEq, and_true, true_and, and_false, false_and, false_or, or_false, p1, z0, nI_add, hy, decide_false, Bool.false_eq_true, Nat.or_zero]
      · obtain ⟨ρ, rfl, g1, g2⟩ := hI
        obtain ⟨c1, -, -, -, -, c7, c8⟩ := id g2.1
        have a1 : nI n ≤ nI n := by rw [nI_leI (by omega) (by omega)]; omega
        refine ⟨_, ?_, ρ, rfl, g1⟩
        dsimp only
        unfold F_12013_32
        simp only [la_100, la_110, la_111, rc_100_0 c1, rc_110_0 c1, c8.2.2.2.2.1, a1, gd_tt, oA_arr, px_obj_s, Option.bind_some, Option.map_some, Option.bind_none, eq_self, true_or, or_true, px_av_0, px_av_1, px_av_2, px_av_10, px_av_11, bn, wi_1, wi_2, wl_1, wl_21, wl_22, wr_1, wr_21, wr_22, Sum.elim_inl, Sum.elim_inr, ↓reduceIte, Nat.reduceLT, Nat.reduceLeDiff, not_false_eq_true, not_true_eq_false, Nat.reduceEqDiff, Nat.reduceAdd, reduceCtorEq, and_true, true_and, and_false, false_and, false_or, or_false]
    obtain ⟨b, p1, ω, rfl, p2⟩ := lc
    refine ⟨nI (bs (fun k => decide (rjx n B nr S C (nI h) (nI k) = 0)) n), ω, ?_, fr_CS (fr_tr q2 p2), fun τ hm => ?_⟩
    · simp only [f_12013, la_100, la_110, la_111, rc_100_0 hR, rc_110_0 hR, gd_tt, oA_arr, px_obj_s, Option.bind_some, Option.map_some, Option.bind_none, eq_self, true_or, or_true, px_av_0, px_av_1, px_av_2, px_av_10, px_av_11, bn, wi_1, wi_2, wl_1, wl_21, wl_22, wr_1, wr_21, wr_22, Sum.elim_inl, Sum.elim_inr, ↓reduceIte, Nat.reduceLT, Nat.reduceLeDiff, not_false_eq_true, not_true_eq_false, Nat.reduceEqDiff, Nat.reduceAdd, reduceCtorEq, and_true, true_and, and_false, false_and, false_or, or_false, k1, n10, q1, p1]
    · have j1 : vp_in (nI 1) 3216 := (vp_in_eq (by omega)).mpr (by omega)
      have j2 : (nI 1).toNatClampNeg = 1 := nI_clamp (by omega)
      have lm : ∀ τ, mor τ n B nr S C → ∃ b, f_63_21 tT 0 (nI h) (nI 0) (nI 0) τ = some b ∧ ∃ ω, b = (nI (bs (fun k => decide (rjx n B nr S C (nI h) (nI k) = 0)) n), ω) ∧ fk RQ τ ω := by
        intro τ hm
        unfold f_63_21
        refine lp_for (F := fun s : Int32 × Int32 × px_M => F_63_21 tT 0 (nI h) s.1 s.2.1 s.2.2) (fun k q => ∃ ρ, q = (nI (bs (fun k => decide (rjx n B nr S C (nI h) (nI k) = 0)) k), nI k, ρ) ∧ fk RQ τ ρ) (fun b => ∃ ω, b = (nI (bs (fun k => decide (rjx n B nr S C (nI h) (nI k) = 0)) n), ω) ∧ fk RQ τ ω) n (fun k q hk hI => ?_) (fun q hI => ?_) 0 (nI 0, nI 0, τ) (by omega) ⟨τ, rfl, fk_rf _ _⟩
        · obtain ⟨ρ, rfl, g1⟩ := hI
          have hmρ := mor_fk g1 hm
          obtain ⟨ω, p1, p2⟩ := e_rjx hmρ hru (nI h) (nI k)
          obtain ⟨hRm, -, e1, -⟩ := id hmρ.1
          have a1 : ¬ nI n ≤ nI k := by rw [nI_leI (by omega) (by omega)]; omega
          have hle := rjx_le (n := n) (B := B) (nr := nr) (S := S) (C := C) (nI h) (nI k)
          rw [bs_S]
          generalize bs (fun k => decide (rjx n B nr S C (nI h) (nI k) = 0)) k = z
          generalize hq : rjx n B nr S C (nI h) (nI k) = y at p1 hle
          refine ⟨(nI (z ||| (if decide (y = 0) = true then 2 ^ k else 0)), nI (k + 1), ω), ?_, ω, rfl, fk_tr g1 p2⟩
          dsimp only
          unfold F_63_21 f_63_52
          by_cases hy : y = 0
          · subst hy
            simp only [la_0, la_1, rm_0_1 hRm, j1, j2, e1, a1, gd_tt, oA_arr, px_obj_s, Option.bind_some, Option.map_some, Option.bind_none, eq_self, true_or, or_true, px_av_0, px_av_1, px_av_2, px_av_10, px_av_11, bn, wi_1, wi_2, wl_1, wl_21, wl_22, wr_1, wr_21, wr_22, Sum.elim_inl, Sum.elim_inr, ↓reduceIte, Nat.reduceLT, Nat.reduceLeDiff, not_false_eq_true, not_true_eq_false, Nat.reduceEqDiff, Nat.reduceAdd, reduceCtorEq, and_true, true_and, and_false, false_and, false_or, or_false, p1, ni_1s (show k < 31 by omega), fa_or, nI_add, decide_true]
          · have z0 : ¬ nI y = nI 0 := by rw [nI_eq (by omega) (by omega)]; exact hy
            simp only [la_0, la_1, rm_0_1 hRm, j1, j2, e1, a1, gd_tt, oA_arr, px_obj_s, Option.bind_some, Option.map_some, Option.bind_none, eq_self, true_or, or_true, px_av_0, px_av_1, px_av_2, px_av_10, px_av_11, bn, wi_1, wi_2, wl_1, wl_21, wl_22, wr_1, wr_21, wr_22, Sum.elim_inl, Sum.elim_inr, ↓reduceIte, Nat.reduceLT, Nat.reduceLeDiff, not_false_eq_true, not_true_eq_false, Nat.reduceEqDiff, Nat.reduceAdd, reduceCtorEq, and_true, true_and, and_false, false_and, false_or, or_false, p1, z0, fa_or, nI_add, hy, decide_false, Bool.false_eq_true]
        · obtain ⟨ρ, rfl, g1⟩ := hI
          obtain ⟨hRm, -, e1, -⟩ := (mor_fk g1 hm).1
          have a1 : nI n ≤ nI n := by rw [nI_leI (by omega) (by omega)]; omega
          refine ⟨_, ?_, ρ, rfl, g1⟩
          dsimp only
          unfold F_63_21
          simp only [la_0, la_1, rm_0_1 hRm, j1, j2, e1, a1, gd_tt, oA_arr, px_obj_s, Option.bind_some, Option.map_some, Option.bind_none, eq_self, true_or, or_true, px_av_0, px_av_1, px_av_2, px_av_10, px_av_11, bn, wi_1, wi_2, wl_1, wl_21, wl_22, wr_1, wr_21, wr_22, Sum.elim_inl, Sum.elim_inr, ↓reduceIte, Nat.reduceLT, Nat.reduceLeDiff, not_false_eq_true, not_true_eq_false, Nat.reduceEqDiff, Nat.reduceAdd, reduceCtorEq, and_true, true_and, and_false, false_and, false_or, or_false]
      obtain ⟨b, w1, ψ, rfl, w2⟩ := lm _ (mor_thr hm)
      refine ⟨ψ, ?_, fk_tr fk_thr (fk_mono w2 SM_RQ)⟩
      have w3 := e_hs (mo_thr hm.1) hh
      simp only [f_63, la_0, gd_tt, oA_arr, px_obj_s, Option.bind_some, Option.map_some, Option.bind_none, eq_self, true_or, or_true, px_av_0, px_av_1, px_av_2, px_av_10, px_av_11, bn, wi_1, wi_2, wl_1, wl_21, wl_22, wr_1, wr_21, wr_22, Sum.elim_inl, Sum.elim_inr, ↓reduceIte, Nat.reduceLT, Nat.reduceLeDiff, not_false_eq_true, not_true_eq_false, Nat.reduceEqDiff, Nat.reduceAdd, reduceCtorEq, and_true, true_and, and_false, false_and, false_or, or_false, w3, n10, w1]
  · have k1 := c_has0 hc.1.2 hno
    refine ⟨-2, σ, ?_, fr_rf _ _, fun τ hm => ⟨_, ?_, fk_thr⟩⟩
    · simp only [f_12013, la_100, la_110, la_111, rc_100_0 hR, rc_110_0 hR, gd_tt, oA_arr, px_obj_s, Option.bind_some, Option.map_some, Option.bind_none, eq_self, true_or, or_true, px_av_0, px_av_1, px_av_2, px_av_10, px_av_11, bn, wi_1, wi_2, wl_1, wl_21, wl_22, wr_1, wr_21, wr_22, Sum.elim_inl, Sum.elim_inr, ↓reduceIte, Nat.reduceLT, Nat.reduceLeDiff, not_false_eq_true, not_true_eq_false, Nat.reduceEqDiff, Nat.reduceAdd, reduceCtorEq, and_true, true_and, and_false, false_and, false_or, or_false, k1]
    · have w3 := e_hs0 (mo_thr hm.1) hno
      simp only [f_63, la_0, gd_tt, oA_arr, px_obj_s, Option.bind_some, Option.map_some, Option.bind_none, eq_self, true_or, or_true, px_av_0, px_av_1, px_av_2, px_av_10, px_av_11, bn, wi_1, wi_2, wl_1, wl_21, wl_22, wr_1, wr_21, wr_22, Sum.elim_inl, Sum.elim_inr, ↓reduceIte, Nat.reduceLT, Nat.reduceLeDiff, not_false_eq_true, not_true_eq_false, Nat.reduceEqDiff, Nat.reduceAdd, reduceCtorEq, and_true, true_and, and_false, false_and, false_or, or_false, w3]
end
