/-! the model: what is against a door, against a house -/
noncomputable def hby (n : Nat) (B : Nat → Nat) (nr : Nat) (S C : Nat → Nat) (h : Nat) : Nat := bs (fun r => rhr n B S C r h) nr
def stl (nr n' old : Nat) (f g : Nat → Nat → Bool) : Bool := decide (∀ h, h < n' → ∀ r, r < nr → (h < old → f r h = true) → g r h = true)
/-- what refusals may change of the model -/
def RQ (l _ : Nat) : Bool := l == 15 || l == 16 || l == 17 || l == 19 || l == 20
def rS9 (l _ : Nat) : Bool := l == 15 || l == 16 || l == 17 || l == 19
theorem rS9_rS : ∀ l j, rS9 l j = false → rS l j = false := fun l j h => by
  simp only [rS9, Bool.or_eq_false_iff] at h
  simp only [rS, Bool.or_eq_false_iff]; exact h.1
theorem RQ_rS : ∀ l j, RQ l j = false → rS l j = false := fun l j h => by
  simp only [RQ, Bool.or_eq_false_iff] at h
  simp only [rS, Bool.or_eq_false_iff]; exact h.1.1
theorem RQ_rS9 : ∀ l j, RQ l j = false → rS9 l j = false := fun l j h => by
  simp only [RQ, Bool.or_eq_false_iff] at h
  simp only [rS9, Bool.or_eq_false_iff]; exact h.1
theorem RQ_20 : ∀ l j, RQ l j = false → on 20 l j = false := fun l j h => by
  simp only [RQ, Bool.or_eq_false_iff] at h; exact h.2
section
variable {σ τ : px_M} {n n' nr : Nat} {B B' S C : Nat → Nat}
theorem hby_lt (hr : nr ≤ 6) (h : Nat) : hby n B nr S C h < 2048 := bs_lt (by omega)
theorem hby_tb (h r : Nat) : (hby n B nr S C h).testBit r = (decide (r < nr) && rhr n B S C r h) := bs_tb
theorem e_heldBy (hm : mo σ n B) (hru : rul nr S C) (hr : mru σ 0 nr S C) {h : Nat} (hh : h < n) : ∃ υ, f_54 tT σ 0 (nI h) = some (nI (hby n B nr S C h), υ) ∧ fr rS σ υ := by
  have u6 := hru.1
  unfold f_54 f_54_4
  obtain ⟨b, q1, υ, rfl, q2⟩ := lp_for (F := fun s : Int32 × Int32 × px_M => F_54_4 tT 0 (nI h) s.1 s.2.1 s.2.2) (fun r q => ∃ ρ, q = (nI (bs (fun r => rhr n B S C r h) r), nI r, ρ) ∧ fr rS σ ρ) (fun b => ∃ υ, b = (nI (hby n B nr S C h), υ) ∧ fr rS σ υ) nr (fun r q hr2 hI => by
    obtain ⟨ρ, rfl, g1⟩ := hI
    have hmρ := mo_rS g1 hm
    have hrρ := mru_fr g1 (fun _ _ => rfl) hr
    obtain ⟨υ, p1, p2⟩ := e_ruleHolds hmρ hru hrρ hr2 hh
    obtain ⟨hR, -, -, -⟩ := id hmρ
    have v1 := hrρ.1
    rw [Nat.zero_add] at v1
    have a1 : ¬ nI nr ≤ nI r := by rw [nI_leI (by omega) (by omega)]; omega
    have c1 : vp_in (nI 158) 3216 := (vp_in_eq (by omega)).mpr (by omega)
    have c2 : (nI 158).toNatClampNeg = 158 := nI_clamp (by omega)
    have hbs : bs (fun r => rhr n B S C r h) (r + 1) = bs (fun r => rhr n B S C r h) r ||| (if rhr n B S C r h then 2 ^ r else 0) := bs_S _ _
    rw [hbs]
    generalize bs (fun r => rhr n B S C r h) r = s
    refine ⟨(nI (s ||| (if rhr n B S C r h then 2 ^ r else 0)), nI (r + 1), υ), ?_, υ, rfl, fr_tr g1 p2⟩
    dsimp only
    unfold F_54_4 f_54_35
    cases hb : rhr n B S C r h with
    | false =>
      rw [hb, mb_f0] at p1
      simp only [la_0, la_1, rm_0_1 hR, gd_tt, oA_arr, px_obj_s, Option.bind_some, Option.map_some, Option.bind_none, eq_self, true_or, or_true, px_av_0, px_av_1, px_av_2, px_av_10, px_av_11, bn, wi_1, wi_2, wl_1, wl_21, wl_22, wr_1, wr_21, wr_22, Sum.elim_inl, Sum.elim_inr, ↓reduceIte, Nat.reduceLT, Nat.reduceLeDiff, not_false_eq_true, not_true_eq_false, Nat.reduceEqDiff, Nat.reduceAdd, reduceCtorEq, and_true, true_and, and_false, false_and, false_or, or_false, c1, c2, v1, a1, p1, fa_or, nI_add, Bool.false_eq_true]
    | true =>
      rw [hb, mb_t1] at p1
      simp only [la_0, la_1, rm_0_1 hR, gd_tt, oA_arr, px_obj_s, Option.bind_some, Option.map_some, Option.bind_none, eq_self, true_or, or_true, px_av_0, px_av_1, px_av_2, px_av_10, px_av_11, bn, wi_1, wi_2, wl_1, wl_21, wl_22, wr_1, wr_21, wr_22, Sum.elim_inl, Sum.elim_inr, ↓reduceIte, Nat.reduceLT, Nat.reduceLeDiff, not_false_eq_true, not_true_eq_false, Nat.reduceEqDiff, Nat.reduceAdd, reduceCtorEq, and_true, true_and, and_false, false_and, false_or, or_false, c1, c2, v1, a1, p1, n10, ni_1s (show r < 31 by omega), fa_or, nI_add]) (fun q hI => by
    obtain ⟨ρ, rfl, g1⟩ := hI
    have hmρ := mo_rS g1 hm
    have hrρ := mru_fr g1 (fun _ _ => rfl) hr
    obtain ⟨hR, -, -, -⟩ := id hmρ
    have v1 := hrρ.1
    rw [Nat.zero_add] at v1
    have a1 : nI nr ≤ nI nr := by rw [nI_leI (by omega) (by omega)]; omega
    have c1 : vp_in (nI 158) 3216 := (vp_in_eq (by omega)).mpr (by omega)
    have c2 : (nI 158).toNatClampNeg = 158 := nI_clamp (by omega)
    refine ⟨(nI (hby n B nr S C h), ρ), ?_, ρ, rfl, g1⟩
    dsimp only
    unfold F_54_4
    simp only [la_0, la_1, rm_0_1 hR, gd_tt, oA_arr, px_obj_s, Option.bind_some, Option.map_some, Option.bind_none, eq_self, true_or, or_true, px_av_0, px_av_1, px_av_2, px_av_10, px_av_11, bn, wi_1, wi_2, wl_1, wl_21, wl_22, wr_1, wr_21, wr_22, Sum.elim_inl, Sum.elim_inr, ↓reduceIte, Nat.reduceLT, Nat.reduceLeDiff, not_false_eq_true, not_true_eq_false, Nat.reduceEqDiff, Nat.reduceAdd, reduceCtorEq, and_true, true_and, and_false, false_and, false_or, or_false, c1, c2, v1, a1]
    rfl) 0 (nI 0, nI 0, σ) (by omega) ⟨σ, rfl, fr_rf _ _⟩
  exact ⟨υ, q1, q2⟩
theorem mo_S9 (h : fr rS9 σ τ) (hm : mo σ n B) : mo τ n B := mo_fr h (fun _ => rfl) hm
theorem e_laysHeld (hm : mo σ n B) (hru : rul nr S C) (hr : mru σ 0 nr S C) : ∃ υ, f_55 tT σ 0 = some υ ∧ fr rS9 σ υ ∧ ∀ h, h < n → υ.1 19 h = nI (hby n B nr S C h) := by
  have hn := hm.2.1.1
  unfold f_55 f_55_2
  refine lp_for (F := fun s : Int32 × px_M => F_55_2 tT 0 s.1 s.2) (fun j q => ∃ ρ, q = (nI j, ρ) ∧ fr rS9 σ ρ ∧ ∀ h, h < j → ρ.1 19 h = nI (hby n B nr S C h)) (fun υ => fr rS9 σ υ ∧ ∀ h, h < n → υ.1 19 h = nI (hby n B nr S C h)) n (fun j q hj hI => ?_) (fun q hI => ?_) 0 (nI 0, σ) (by omega) ⟨σ, rfl, fr_rf _ _, fun h hh => by omega⟩
  · obtain ⟨ρ, rfl, g1, g2⟩ := hI
    have hmρ := mo_S9 g1 hm
    obtain ⟨υ, p1, p2⟩ := e_heldBy hmρ hru (mru_fr g1 (fun _ _ => rfl) hr) hj
    obtain ⟨hR, -, e1, -⟩ := id hmρ
    have a1 : ¬ nI n ≤ nI j := by rw [nI_leI (by omega) (by omega)]; omega
    have c1 : vp_in (nI 1) 3216 := (vp_in_eq (by omega)).mpr (by omega)
    have c2 : (nI 1).toNatClampNeg = 1 := nI_clamp (by omega)
    have c3 : vp_in (nI j) 11 := (vp_in_eq (by omega)).mpr (by omega)
    have c4 : (nI j).toNatClampNeg = j := nI_clamp (by omega)
    refine ⟨(nI (j + 1), px_wi υ 19 j (nI (hby n B nr S C j))), ?_, _, rfl, fr_wi (fr_tr g1 (fr_mono p2 rS9_rS)) _ rfl, fun h hh => ?_⟩
    · dsimp only
      unfold F_55_2
      simp only [la_0, la_1, la_19, rm_0_1 hR, rm_0_19 hR, gd_tt, oA_arr, px_obj_s, Option.bind_some, Option.map_some, Option.bind_none, eq_self, true_or, or_true, px_av_0, px_av_1, px_av_2, px_av_10, px_av_11, bn, wi_1, wi_2, wl_1, wl_21, wl_22, wr_1, wr_21, wr_22, Sum.elim_inl, Sum.elim_inr, ↓reduceIte, Nat.reduceLT, Nat.reduceLeDiff, not_false_eq_true, not_true_eq_false, Nat.reduceEqDiff, Nat.reduceAdd, reduceCtorEq, and_true, true_and, and_false, false_and, false_or, or_false, c1, c2, e1, a1, p1, c3, c4, nI_add]
    · show px_up υ.1 19 j _ 19 h = _
      rw [up_s]
      by_cases q : h = j
      · subst q; rw [if_pos rfl]
      · rw [if_neg q, p2.1 19 h rfl]; exact g2 h (by omega)
  · obtain ⟨ρ, rfl, g1, g2⟩ := hI
    obtain ⟨hR, -, e1, -⟩ := mo_S9 g1 hm
    refine ⟨ρ, ?_, g1, g2⟩
    have a1 : nI n ≤ nI n := by rw [nI_leI (by omega) (by omega)]; omega
    have c1 : vp_in (nI 1) 3216 := (vp_in_eq (by omega)).mpr (by omega)
    have c2 : (nI 1).toNatClampNeg = 1 := nI_clamp (by omega)
    dsimp only
    unfold F_55_2
    simp only [la_0, la_1, rm_0_1 hR, gd_tt, oA_arr, px_obj_s, Option.bind_some, Option.map_some, Option.bind_none, eq_self, true_or, or_true, px_av_0, px_av_1, px_av_2, px_av_10, px_av_11, bn, wi_1, wi_2, wl_1, wl_21, wl_22, wr_1, wr_21, wr_22, Sum.elim_inl, Sum.elim_inr, ↓reduceIte, Nat.reduceLT, Nat.reduceLeDiff, not_false_eq_true, not_true_eq_false, Nat.reduceEqDiff, Nat.reduceAdd, reduceCtorEq, and_true, true_and, and_false, false_and, false_or, or_false, c1, c2, e1, a1]
theorem e_still (hm : mo σ n' B') (hru : rul nr S C) (hr : mru σ 0 nr S C) {old : Nat} (ho : old ≤ n') (f : Nat → Nat → Bool) (h19 : ∀ h, h < old → σ.1 19 h = nI (bs (fun r => f r h) nr)) : ∃ υ, f_56 tT σ 0 (nI old) = some (mb (stl nr n' old f (rhr n' B' S C)), υ) ∧ fr rS σ υ := by
  have hn := hm.2.1.1
  have u6 := hru.1
  unfold f_56 f_56_2
  obtain ⟨b, q1, υ, rfl, q2⟩ := lp_rel (F := fun s : Int32 × px_M => F_56_2 tT 0 (nI old) s.1 s.2) (fun j q => ∃ ρ, q = (nI j, ρ) ∧ fr rS σ ρ ∧ ∀ h, h < j → ∀ r, r < nr → (h < old → f r h = true) → rhr n' B' S C r h = true) (fun b => ∃ υ, b = (mb (stl nr n' old f (rhr n' B' S C)), υ) ∧ fr rS σ υ) n' (fun j q hj hI => by
    obtain ⟨ρ, rfl, g1, g2⟩ := hI
    have hmρ := mo_rS g1 hm
    obtain ⟨hR, -, e1, -⟩ := id hmρ
    have hrρ := mru_fr g1 (fun _ _ => rfl) hr
    have v1 := hrρ.1
    rw [Nat.zero_add] at v1
    have c1 : vp_in (nI 1) 3216 := (vp_in_eq (by omega)).mpr (by omega)
    have c2 : (nI 1).toNatClampNeg = 1 := nI_clamp (by omega)
    by_cases hjn : j = n'
    · subst hjn
      have e : stl nr j old f (rhr j B' S C) = true := decide_eq_true g2
      refine Or.inr ⟨(mb (stl nr j old f (rhr j B' S C)), ρ), ?_, ρ, rfl, g1⟩
      have a1 : nI j ≤ nI j := by rw [nI_leI (by omega) (by omega)]; omega
      rw [e]
      dsimp only
      unfold F_56_2
      simp only [la_0, la_1, rm_0_1 hR, gd_tt, oA_arr, px_obj_s, Option.bind_some, Option.map_some, Option.bind_none, eq_self, true_or, or_true, px_av_0, px_av_1, px_av_2, px_av_10, px_av_11, bn, wi_1, wi_2, wl_1, wl_21, wl_22, wr_1, wr_21, wr_22, Sum.elim_inl, Sum.elim_inr, ↓reduceIte, Nat.reduceLT, Nat.reduceLeDiff, not_false_eq_true, not_true_eq_false, Nat.reduceEqDiff, Nat.reduceAdd, reduceCtorEq, and_true, true_and, and_false, false_and, false_or, or_false, c1, c2, e1, a1, mb_t1]
    · have a1 : ¬ nI n' ≤ nI j := by rw [nI_leI (by omega) (by omega)]; omega
      obtain ⟨υ, p1, p2⟩ := e_heldBy hmρ hru hrρ (show j < n' by omega)
      have key : ∀ m, m < 2048 → (∀ r, m.testBit r = true ↔ (r < nr ∧ (j < old → f r j = true))) → ∃ b, f_56_39 tT ρ 0 (nI old) (nI j) (nI m) = some b ∧ ((∃ a', b = .inl a' ∧ j < n' ∧ ∃ ρ', a' = (nI (j + 1), ρ') ∧ fr rS σ ρ' ∧ ∀ h, h < j + 1 → ∀ r, r < nr → (h < old → f r h = true) → rhr n' B' S C r h = true) ∨ (∃ c, b = .inr c ∧ ∃ υ', c = (mb (stl nr n' old f (rhr n' B' S C)), υ') ∧ fr rS σ υ')) := by
        intro m hm2 hmb
        have hl := hby_lt (n := n') (B := B') (S := S) (C := C) u6 j
        have hal : hby n' B' nr S C j &&& m < 2048 := Nat.lt_of_le_of_lt Nat.and_le_right hm2
        by_cases hsub : m &&& hby n' B' nr S C j = m
        · refine ⟨.inl (nI (j + 1), υ), ?_, Or.inl ⟨_, rfl, by omega, υ, rfl, fr_tr g1 p2, fun h hh r hr2 hf => ?_⟩⟩
          · rw [Nat.and_comm] at hsub
            have z : nI (hby n' B' nr S C j &&& m) = nI m := by rw [hsub]
            simp only [f_56_39, la_0, gd_tt, oA_arr, px_obj_s, Option.bind_some, Option.map_some, Option.bind_none, eq_self, true_or, or_true, px_av_0, px_av_1, px_av_2, px_av_10, px_av_11, bn, wi_1, wi_2, wl_1, wl_21, wl_22, wr_1, wr_21, wr_22, Sum.elim_inl, Sum.elim_inr, ↓reduceIte, Nat.reduceLT, Nat.reduceLeDiff, not_false_eq_true, not_true_eq_false, Nat.reduceEqDiff, Nat.reduceAdd, reduceCtorEq, and_true, true_and, and_false, false_and, false_or, or_false, p1, fa_and, z, nI_add]
          · by_cases hhj : h = j
            · subst hhj
              have := sub_iff.mp hsub r ((hmb r).mpr ⟨hr2, hf⟩)
              rw [hby_tb, Bool.and_eq_true] at this
              exact this.2
            · exact g2 h (by omega) r hr2 hf
        · have e : stl nr n' old f (rhr n' B' S C) = false := decide_eq_false (fun q => hsub (sub_iff.mpr (fun r hrm => by
            obtain ⟨w1, w2⟩ := (hmb r).mp hrm
            rw [hby_tb, decide_eq_true w1, q j (by omega) r w1 w2]; rfl)))
          refine ⟨.inr (nI 0, υ), ?_, Or.inr ⟨_, rfl, υ, by rw [e]; rfl, fr_tr g1 p2⟩⟩
          rw [Nat.and_comm] at hsub
          have z : ¬ nI (hby n' B' nr S C j &&& m) = nI m := by rw [nI_eq (by omega) (by omega)]; exact hsub
          simp only [f_56_39, la_0, gd_tt, oA_arr, px_obj_s, Option.bind_some, Option.map_some, Option.bind_none, eq_self, true_or, or_true, px_av_0, px_av_1, px_av_2, px_av_10, px_av_11, bn, wi_1, wi_2, wl_1, wl_21, wl_22, wr_1, wr_21, wr_22, Sum.elim_inl, Sum.elim_inr, ↓reduceIte, Nat.reduceLT, Nat.reduceLeDiff, not_false_eq_true, not_true_eq_false, Nat.reduceEqDiff, Nat.reduceAdd, reduceCtorEq, and_true, true_and, and_false, false_and, false_or, or_false, p1, fa_and, z]
      by_cases hjo : j < old
      · have a2 : ¬ nI old ≤ nI j := by rw [nI_leI (by omega) (by omega)]; omega
        have d1 : ρ.1 19 j = nI (bs (fun r => f r j) nr) := by rw [g1.1 19 j rfl]; exact h19 j hjo
        have c3 : vp_in (nI j) 11 := (vp_in_eq (by omega)).mpr (by omega)
        have c4 : (nI j).toNatClampNeg = j := nI_clamp (by omega)
        obtain ⟨b, w1, w2⟩ := key (bs (fun r => f r j) nr) (bs_lt (by omega)) (fun r => by
          rw [bs_tb, Bool.and_eq_true, decide_eq_true_eq]
          exact ⟨fun q => ⟨q.1, fun _ => q.2⟩, fun q => ⟨q.1, q.2 hjo⟩⟩)
        have hF : F_56_2 tT 0 (nI old) (nI j) ρ = some b := by
          unfold F_56_2
          simp only [la_0, la_1, la_19, rm_0_1 hR, rm_0_19 hR, gd_tt, oA_arr, px_obj_s, Option.bind_some, Option.map_some, Option.bind_none, eq_self, true_or, or_true, px_av_0, px_av_1, px_av_2, px_av_10, px_av_11, bn, wi_1, wi_2, wl_1, wl_21, wl_22, wr_1, wr_21, wr_22, Sum.elim_inl, Sum.elim_inr, ↓reduceIte, Nat.reduceLT, Nat.reduceLeDiff, not_false_eq_true, not_true_eq_false, Nat.reduceEqDiff, Nat.reduceAdd, reduceCtorEq, and_true, true_and, and_false, false_and, false_or, or_false, c1, c2, e1, a1, a2, c3, c4, d1, w1]
        rcases w2 with ⟨a', rfl, w3, w4⟩ | ⟨c, rfl, w3⟩
        · exact Or.inl ⟨a', hF, w3, w4⟩
        · exact Or.inr ⟨c, hF, w3⟩
      · have a2 : nI old ≤ nI j := by rw [nI_leI (by omega) (by omega)]; omega
        have c3 : vp_in (nI 158) 3216 := (vp_in_eq (by omega)).mpr (by omega)
        have c4 : (nI 158).toNatClampNeg = 158 := nI_clamp (by omega)
        obtain ⟨b, w1, w2⟩ := key (2 ^ nr - 1) (al_lt (by omega)) (fun r => by
          rw [tb_all, decide_eq_true_eq]
          exact ⟨fun q => ⟨q, fun z => absurd z hjo⟩, fun q => q.1⟩)
        have hF : F_56_2 tT 0 (nI old) (nI j) ρ = some b := by
          unfold F_56_2
          simp only [la_0, la_1, rm_0_1 hR, gd_tt, oA_arr, px_obj_s, Option.bind_some, Option.map_some, Option.bind_none, eq_self, true_or, or_true, px_av_0, px_av_1, px_av_2, px_av_10, px_av_11, bn, wi_1, wi_2, wl_1, wl_21, wl_22, wr_1, wr_21, wr_22, Sum.elim_inl, Sum.elim_inr, ↓reduceIte, Nat.reduceLT, Nat.reduceLeDiff, not_false_eq_true, not_true_eq_false, Nat.reduceEqDiff, Nat.reduceAdd, reduceCtorEq, and_true, true_and, and_false, false_and, false_or, or_false, c1, c2, e1, a1, a2, c3, c4, v1, ni_1s (show nr < 31 by omega), ni_subL Nat.one_le_two_pow, w1]
        rcases w2 with ⟨a', rfl, w3, w4⟩ | ⟨c, rfl, w3⟩
        · exact Or.inl ⟨a', hF, w3, w4⟩
        · exact Or.inr ⟨c, hF, w3⟩) 0 (nI 0, σ) (by omega) ⟨σ, rfl, fr_rf _ _, fun h hh => by omega⟩
  exact ⟨υ, q1, q2⟩
theorem stl_kpb (f g : Nat → Nat → Bool) : stl nr n n f g = kpb nr n f g := by
  unfold stl kpb
  exact decide_eq_decide.mpr ⟨fun q r hr h hh hf => q h hh r hr (fun _ => hf), fun q h hh r hr hf => q r hr h hh (hf hh)⟩
theorem stl_enter (f g : Nat → Nat → Bool) : stl nr (n + 1) n f g = true ↔ (stb nr n g = true ∧ kpb nr n f g = true) := by
  unfold stl stb kpb
  rw [decide_eq_true_eq, decide_eq_true_eq, decide_eq_true_eq]
  constructor
  · intro q
    exact ⟨fun r hr => q n (by omega) r hr (fun z => absurd z (by omega)), fun r hr h hh hf => q h (by omega) r hr (fun _ => hf)⟩
  · rintro ⟨q1, q2⟩ h hh r hr hf
    by_cases z : h = n
    · subst z; exact q1 r hr
    · exact q2 r hr h (by omega) (hf (by omega))
/-- what may have changed, but for the model's row, which is as it was -/
def fk (S : Nat → Nat → Bool) (σ τ : px_M) : Prop := fr (fun l j => S l j || tn l j) σ τ ∧ ∀ j, τ.1 1 j = σ.1 1 j
theorem fk_rf (S : Nat → Nat → Bool) (σ : px_M) : fk S σ σ := ⟨fr_rf _ _, fun _ => rfl⟩
theorem fk_tr {S : Nat → Nat → Bool} {σ τ υ : px_M} (h1 : fk S σ τ) (h2 : fk S τ υ) : fk S σ υ := ⟨fr_tr h1.1 h2.1, fun j => (h2.2 j).trans (h1.2 j)⟩
theorem fk_mono {S T : Nat → Nat → Bool} {σ τ : px_M} (h : fk S σ τ) (hST : ∀ l j, T l j = false → S l j = false) : fk T σ τ := ⟨fr_mono h.1 (fun l j q => by
  simp only [Bool.or_eq_false_iff] at q ⊢; exact ⟨hST l j q.1, q.2⟩), h.2⟩
theorem fk_of {S : Nat → Nat → Bool} {σ τ : px_M} (h : fr S σ τ) (h1 : ∀ j, S 1 j = false) : fk S σ τ := ⟨fr_mono h (fun l j q => by
  simp only [Bool.or_eq_false_iff] at q; exact q.1), fun j => h.1 1 j (h1 j)⟩
theorem mo_fk {S : Nat → Nat → Bool} (h : fk S σ τ) (hm : mo σ n B) : mo τ n B := ⟨mR_fr h.1 hm.1, hm.2.1, by rw [h.2]; exact hm.2.2.1, fun a ha => by rw [h.2]; exact hm.2.2.2 a ha⟩
theorem mru_fk {S : Nat → Nat → Bool} {off : Nat} {Z C : Nat → Nat} (h : fk S σ τ) (hr : mru σ off nr Z C) : mru τ off nr Z C := ⟨by rw [h.2]; exact hr.1, fun r hr2 => ⟨by rw [h.2]; exact (hr.2.1 r hr2).1, by rw [h.2]; exact (hr.2.1 r hr2).2⟩, fun i hi => by rw [h.2]; exact hr.2.2 i hi⟩
theorem SM_RQ : ∀ l j, SM l j = false → RQ l j = false := fun l j h => by
  cases hq : RQ l j with
  | false => rfl
  | true =>
    simp only [RQ, Bool.or_eq_true, beq_iff_eq] at hq
    rcases hq with (((rfl | rfl) | rfl) | rfl) | rfl <;> simp [SM] at h
/-- a trial: what was kept is so again -/
theorem fk_back {Q : Nat → Nat → Bool} {ρ υ : px_M} (h1 : fr (fun l j => Q l j || tn l j) σ ρ) (h0 : ∀ j, Q 1 j = false) (h2 : fr tn ρ υ) (h3 : ∀ k, k < 12 → υ.1 1 (1 + k) = σ.1 1 (1 + k)) : fk Q σ υ := by
  have h4 : fr (fun l j => Q l j || tn l j) σ υ := fr_tr h1 (fr_mono h2 (fun l j q => by
    simp only [Bool.or_eq_false_iff] at q; exact q.2))
  refine ⟨h4, fun j => ?_⟩
  by_cases ht : 1 ≤ j ∧ j ≤ 12
  · have := h3 (j - 1) (by omega)
    rw [show 1 + (j - 1) = j by omega] at this
    exact this
  · refine h4.1 1 j ?_
    simp only [Bool.or_eq_false_iff]
    refine ⟨h0 j, ?_⟩
    cases hq : tn 1 j with
    | false => rfl
    | true =>
      simp only [tn, Bool.and_eq_true, beq_iff_eq, decide_eq_true_eq] at hq
      omega
/-- between keeping and coming back -/
theorem e_try (hm : mo σ n B) (hru : rul nr S C) (hr : mru σ 0 nr S C) (go : px_M → Option px_M) (hgo : ∀ ρ, mo ρ n B → ∃ υ, go ρ = some υ ∧ fr tn ρ υ ∧ mo υ n' B') (hnn : n ≤ n') : ∃ ρ1 ρ2 ρ3 ρ4 ρ5, f_55 tT σ 0 = some ρ1 ∧ mo ρ1 n B ∧ f_52 tT ρ1 0 20 = some ρ2 ∧ mo ρ2 n B ∧ go ρ2 = some ρ3 ∧ mo ρ3 n' B' ∧ f_56 tT ρ3 0 (nI n) = some (mb (stl nr n' n (rhr n B S C) (rhr n' B' S C)), ρ4) ∧ mR ρ4.2.2 ∧ f_53 tT ρ4 0 20 = some ρ5 ∧ fk RQ σ ρ5 := by
  obtain ⟨ρ1, a1, a2, a3⟩ := e_laysHeld hm hru hr
  have m1 := mo_S9 a2 hm
  obtain ⟨ρ2, b1, b2, b3⟩ := e_keeps m1.1 la_20 (by decide)
  have m2 := mo_on (by decide) b2 m1
  obtain ⟨ρ3, c1, c2, c3⟩ := hgo ρ2 m2
  have r2 : mru ρ2 0 nr S C := mru_fr b2 (fun _ _ => rfl) (mru_fr a2 (fun _ _ => rfl) hr)
  have r3 : mru ρ3 0 nr S C := mru_fr c2 (fun j hj => by
    cases hq : tn 1 j with
    | false => rfl
    | true =>
      simp only [tn, Bool.and_eq_true, beq_iff_eq, decide_eq_true_eq] at hq
      omega) r2
  obtain ⟨ρ4, d1, d2⟩ := e_still c3 hru r3 hnn (rhr n B S C) (fun h hh => by
    rw [c2.1 19 h rfl, b2.1 19 h rfl]; exact a3 h hh)
  have hR4 := mR_fr d2 c3.1
  obtain ⟨ρ5, e1, e2, e3⟩ := e_isAgain hR4 la_20 (by decide)
  refine ⟨ρ1, ρ2, ρ3, ρ4, ρ5, a1, m1, b1, m2, c1, c3, d1, hR4, e1, fk_back (ρ := ρ4) ?_ (fun _ => rfl) e2 (fun k hk => ?_)⟩
  · have w : ∀ {Q : Nat → Nat → Bool} {α β : px_M}, fr Q α β → (∀ l j, RQ l j = false → tn l j = false → Q l j = false) → fr (fun l j => RQ l j || tn l j) α β := fun h hq => fr_mono h (fun l j q => by
      simp only [Bool.or_eq_false_iff] at q; exact hq l j q.1 q.2)
    exact fr_tr (w a2 (fun l j q _ => RQ_rS9 l j q)) (fr_tr (w b2 (fun l j q _ => RQ_20 l j q)) (fr_tr (w c2 (fun l j _ q => q)) (w d2 (fun l j q _ => RQ_rS l j q))))
  · rw [e3 k hk, d2.1 20 k rfl, c2.1 20 k rfl, b3 k hk, a2.1 1 _ rfl]
theorem lsh : ∀ m, m < 12 → (lN 1 <<< ((nI m).toInt64 &&& 63)) - lN 1 = lN (2 ^ m - 1) := by decide +kernel
theorem nI_lI {a : Nat} (ha : a < 2 ^ 31) : (lN a).toInt32 = nI a := by
  rw [← nI_l ha]; exact Int32.toInt32_toInt64 _
theorem e_rj (hm : mo σ n B) (hru : rul nr S C) (hr : mru σ 0 nr S C) {a b : Nat} (ha : a < n) (hb : b < n) (hab : a ≠ b) : ∃ υ, f_57 tT σ 0 (lN a) (lN b) = some (nI (rj n B nr S C a b), υ) ∧ fk RQ σ υ := by
  have hw := hm.2.1
  have hn := hw.1
  have u6 := hru.1
  have p1 := e_hs hm ha
  have p2 := e_hs hm hb
  rw [nI_l (by omega)] at p1 p2
  have hne : ¬ lN a = lN b := fun q => hab ((nI_eq (by omega) (by omega)).mp (by rw [← nI_lI (show a < 2 ^ 31 by omega), ← nI_lI (show b < 2 ^ 31 by omega), q]))
  have k1 := e_near hm (show a < 11 by omega)
  have k2 := e_near hm (show b < 11 by omega)
  have hBa := wf_2048 hw a
  have k3 := e_isIn σ (s := B a) (j := b) (by omega) (by omega)
  have l1 : (lN a).toInt32 = nI a := nI_lI (by omega)
  have l2 : (lN b).toInt32 = nI b := nI_lI (by omega)
  have l3 : (nI (B a)).toInt64 = lN (B a) := nI_l (by omega)
  have v1 := hr.1
  rw [Nat.zero_add] at v1
  obtain ⟨hR, -, e1, -⟩ := id hm
  have c1 : vp_in (nI 158) 3216 := (vp_in_eq (by omega)).mpr (by omega)
  have c2 : (nI 158).toNatClampNeg = 158 := nI_clamp (by omega)
  have c3 : vp_in (nI 1) 3216 := (vp_in_eq (by omega)).mpr (by omega)
  have c4 : (nI 1).toNatClampNeg = 1 := nI_clamp (by omega)
  unfold rj
  cases h1 : (B a).testBit b with
  | true =>
    rw [h1, mb_t1] at k3
    refine ⟨σ, ?_, fk_rf _ _⟩
    rw [if_pos rfl]
    simp only [f_57, f_57_16, f_57_28, f_57_47, la_0, gd_tt, oA_arr, px_obj_s, Option.bind_some, Option.map_some, Option.bind_none, eq_self, true_or, or_true, px_av_0, px_av_1, px_av_2, px_av_10, px_av_11, bn, wi_1, wi_2, wl_1, wl_21, wl_22, wr_1, wr_21, wr_22, Sum.elim_inl, Sum.elim_inr, ↓reduceIte, Nat.reduceLT, Nat.reduceLeDiff, not_false_eq_true, not_true_eq_false, Nat.reduceEqDiff, Nat.reduceAdd, reduceCtorEq, and_true, true_and, and_false, false_and, false_or, or_false, p1, p2, n10, hne, l1, l2, k1, l3, k3]
  | false =>
    rw [h1, mb_f0] at k3
    rw [if_neg (by simp)]
    have hlt : B a &&& B b < 2048 := and_lt hBa
    by_cases h2 : B a &&& B b = 0
    · have z2 : nI (B a &&& B b) = nI 0 := by rw [h2]
      rw [if_neg (by simp [h2])]
      by_cases h3 : nr = 0
      · rw [h3] at v1
        refine ⟨σ, ?_, fk_rf _ _⟩
        rw [if_pos h3]
        simp only [f_57, f_57_16, f_57_28, f_57_49, f_57_67, la_0, la_1, rm_0_1 hR, gd_tt, oA_arr, px_obj_s, Option.bind_some, Option.map_some, Option.bind_none, eq_self, true_or, or_true, px_av_0, px_av_1, px_av_2, px_av_10, px_av_11, bn, wi_1, wi_2, wl_1, wl_21, wl_22, wr_1, wr_21, wr_22, Sum.elim_inl, Sum.elim_inr, ↓reduceIte, Nat.reduceLT, Nat.reduceLeDiff, not_false_eq_true, not_true_eq_false, Nat.reduceEqDiff, Nat.reduceAdd, reduceCtorEq, and_true, true_and, and_false, false_and, false_or, or_false, p1, p2, n10, hne, l1, l2, k1, k2, l3, k3, fa_and, z2, c1, c2, v1]
      · have z3 : ¬ nI nr = nI 0 := by rw [nI_eq (by omega) (by omega)]; exact h3
        rw [if_neg h3]
        obtain ⟨ρ1, ρ2, ρ3, ρ4, ρ5, a1, m1, b1, m2, g1, m3, d1, hR4, w1, w2⟩ := e_try (n' := n) (B' := jn B a b) hm hru hr (fun ρ => f_15 tT ρ 1 (nI a) (nI b)) (fun ρ hmρ => e_joins hmρ ha hb hab) (Nat.le_refl n)
        rw [stl_kpb] at d1
        refine ⟨ρ5, ?_, w2⟩
        cases hk : kpb nr n (rhr n B S C) (rhr n (jn B a b) S C) with
        | true =>
          rw [hk, mb_t1] at d1
          rw [if_pos rfl]
          simp only [f_57, f_57_16, f_57_28, f_57_49, f_57_67, f_57_92, f_57_115, la_0, la_1, rm_0_1 hR, gd_tt, oA_arr, px_obj_s, Option.bind_some, Option.map_some, Option.bind_none, eq_self, true_or, or_true, px_av_0, px_av_1, px_av_2, px_av_10, px_av_11, bn, wi_1, wi_2, wl_1, wl_21, wl_22, wr_1, wr_21, wr_22, Sum.elim_inl, Sum.elim_inr, ↓reduceIte, Nat.reduceLT, Nat.reduceLeDiff, not_false_eq_true, not_true_eq_false, Nat.reduceEqDiff, Nat.reduceAdd, reduceCtorEq, and_true, true_and, and_false, false_and, false_or, or_false, p1, p2, n10, hne, l1, l2, k1, k2, l3, k3, fa_and, z2, c1, c2, c3, c4, v1, z3, a1, rm_0_20 m1.1, b1, rm_0_1 m2.1, g1, rm_0_1 m3.1, m3.2.2.1, d1, rm_0_20 hR4, w1]
        | false =>
          rw [hk, mb_f0] at d1
          rw [if_neg (by simp)]
          simp only [f_57, f_57_16, f_57_28, f_57_49, f_57_67, f_57_92, f_57_115, la_0, la_1, rm_0_1 hR, gd_tt, oA_arr, px_obj_s, Option.bind_some, Option.map_some, Option.bind_none, eq_self, true_or, or_true, px_av_0, px_av_1, px_av_2, px_av_10, px_av_11, bn, wi_1, wi_2, wl_1, wl_21, wl_22, wr_1, wr_21, wr_22, Sum.elim_inl, Sum.elim_inr, ↓reduceIte, Nat.reduceLT, Nat.reduceLeDiff, not_false_eq_true, not_true_eq_false, Nat.reduceEqDiff, Nat.reduceAdd, reduceCtorEq, and_true, true_and, and_false, false_and, false_or, or_false, p1, p2, n10, hne, l1, l2, k1, k2, l3, k3, fa_and, z2, c1, c2, c3, c4, v1, z3, a1, rm_0_20 m1.1, b1, rm_0_1 m2.1, g1, rm_0_1 m3.1, m3.2.2.1, d1, rm_0_20 hR4, w1]
    · have z2 : ¬ nI (B a &&& B b) = nI 0 := by rw [nI_eq (by omega) (by omega)]; exact h2
      refine ⟨σ, ?_, fk_rf _ _⟩
      rw [if_pos h2]
      simp only [f_57, f_57_16, f_57_28, f_57_49, f_57_65, la_0, gd_tt, oA_arr, px_obj_s, Option.bind_some, Option.map_some, Option.bind_none, eq_self, true_or, or_true, px_av_0, px_av_1, px_av_2, px_av_10, px_av_11, bn, wi_1, wi_2, wl_1, wl_21, wl_22, wr_1, wr_21, wr_22, Sum.elim_inl, Sum.elim_inr, ↓reduceIte, Nat.reduceLT, Nat.reduceLeDiff, not_false_eq_true, not_true_eq_false, Nat.reduceEqDiff, Nat.reduceAdd, reduceCtorEq, and_true, true_and, and_false, false_and, false_or, or_false, p1, p2, n10, hne, l1, l2, k1, k2, l3, k3, fa_and, z2]
theorem e_re (hm : mo σ n B) (hru : rul nr S C) (hr : mru σ 0 nr S C) {s : Nat} (hs : s < 2 ^ n) : ∃ υ, f_65 tT σ 0 (lN s) = some (nI (re n B nr S C s), υ) ∧ fk RQ σ υ := by
  have hw := hm.2.1
  have hn := hw.1
  have u6 := hru.1
  have hp := pw_le hn
  have hp0 := Nat.two_pow_pos n
  have l1 : (lN s).toInt32 = nI s := nI_lI (by omega)
  have l2 : (nI s).toInt64 = lN s := nI_l (by omega)
  obtain ⟨hR, -, e1, -⟩ := id hm
  have w0 := e_withinN σ (nI s) (lo := 0) (hi := 2 ^ n - 1) (by omega) (by omega)
  have hin : ((0 : Nat) : Int) ≤ (nI s).toInt ∧ (nI s).toInt ≤ ((2 ^ n - 1 : Nat) : Int) := by
    rw [nI_toInt (by omega)]; omega
  rw [decide_eq_true hin, mb_t1, l2] at w0
  have sh : (lN 1 <<< ((nI n).toInt64 &&& 63)) - lN 1 = lN (2 ^ n - 1) := lsh n (by omega)
  have c3 : vp_in (nI 1) 3216 := (vp_in_eq (by omega)).mpr (by omega)
  have c4 : (nI 1).toNatClampNeg = 1 := nI_clamp (by omega)
  have k1 := e_isFeast hm (s := s) (by omega)
  unfold re
  by_cases h11 : n = 11
  · refine ⟨σ, ?_, fk_rf _ _⟩
    rw [if_pos h11]
    have z : (nI n = nI 11) = True := eq_true (by rw [h11])
    simp only [f_65, la_0, la_1, rm_0_1 hR, gd_tt, oA_arr, px_obj_s, Option.bind_some, Option.map_some, Option.bind_none, eq_self, true_or, or_true, px_av_0, px_av_1, px_av_2, px_av_10, px_av_11, bn, wi_1, wi_2, wl_1, wl_21, wl_22, wr_1, wr_21, wr_22, Sum.elim_inl, Sum.elim_inr, ↓reduceIte, Nat.reduceLT, Nat.reduceLeDiff, not_false_eq_true, not_true_eq_false, Nat.reduceEqDiff, Nat.reduceAdd, reduceCtorEq, and_true, true_and, and_false, false_and, false_or, or_false, c3, c4, e1, sh, w0, n10, z]
  · rw [if_neg h11]
    have z : ¬ nI n = nI 11 := by rw [nI_eq (by omega) (by omega)]; exact h11
    cases hf : fe n B s with
    | false =>
      rw [hf, mb_f0] at k1
      refine ⟨σ, ?_, fk_rf _ _⟩
      rw [if_pos rfl]
      simp only [f_65, f_65_43, la_0, la_1, rm_0_1 hR, gd_tt, oA_arr, px_obj_s, Option.bind_some, Option.map_some, Option.bind_none, eq_self, true_or, or_true, px_av_0, px_av_1, px_av_2, px_av_10, px_av_11, bn, wi_1, wi_2, wl_1, wl_21, wl_22, wr_1, wr_21, wr_22, Sum.elim_inl, Sum.elim_inr, ↓reduceIte, Nat.reduceLT, Nat.reduceLeDiff, not_false_eq_true, not_true_eq_false, Nat.reduceEqDiff, Nat.reduceAdd, reduceCtorEq, and_true, true_and, and_false, false_and, false_or, or_false, c3, c4, e1, sh, w0, n10, z, l1, k1]
    | true =>
      rw [hf, mb_t1] at k1
      rw [if_neg (by simp)]
      obtain ⟨ρ1, ρ2, ρ3, ρ4, ρ5, a1, m1, b1, m2, g1, m3, d1, hR4, w1, w2⟩ := e_try (n' := n + 1) (B' := ah n B s) hm hru hr (fun ρ => f_64 tT ρ 0 (nI s)) (fun ρ hmρ => e_enters hmρ (by omega) hs) (by omega)
      refine ⟨ρ5, ?_, w2⟩
      have hst := stl_enter (nr := nr) (n := n) (rhr n B S C) (rhr (n + 1) (ah n B s) S C)
      cases hk : stl nr (n + 1) n (rhr n B S C) (rhr (n + 1) (ah n B s) S C) with
      | true =>
        rw [hk, mb_t1] at d1
        rw [if_pos (hst.mp hk)]
        simp only [f_65, f_65_45, f_65_70, la_0, la_1, rm_0_1 hR, gd_tt, oA_arr, px_obj_s, Option.bind_some, Option.map_some, Option.bind_none, eq_self, true_or, or_true, px_av_0, px_av_1, px_av_2, px_av_10, px_av_11, bn, wi_1, wi_2, wl_1, wl_21, wl_22, wr_1, wr_21, wr_22, Sum.elim_inl, Sum.elim_inr, ↓reduceIte, Nat.reduceLT, Nat.reduceLeDiff, not_false_eq_true, not_true_eq_false, Nat.reduceEqDiff, Nat.reduceAdd, reduceCtorEq, and_true, true_and, and_false, false_and, false_or, or_false, c3, c4, e1, sh, w0, n10, z, l1, k1, a1, rm_0_20 m1.1, b1, rm_0_1 m2.1, m2.2.2.1, g1, d1, rm_0_20 hR4, w1]
      | false =>
        rw [hk, mb_f0] at d1
        rw [if_neg (fun q => by have := hst.mpr q; rw [hk] at this; cases this)]
        simp only [f_65, f_65_45, f_65_70, la_0, la_1, rm_0_1 hR, gd_tt, oA_arr, px_obj_s, Option.bind_some, Option.map_some, Option.bind_none, eq_self, true_or, or_true, px_av_0, px_av_1, px_av_2, px_av_10, px_av_11, bn, wi_1, wi_2, wl_1, wl_21, wl_22, wr_1, wr_21, wr_22, Sum.elim_inl, Sum.elim_inr, ↓reduceIte, Nat.reduceLT, Nat.reduceLeDiff, not_false_eq_true, not_true_eq_false, Nat.reduceEqDiff, Nat.reduceAdd, reduceCtorEq, and_true, true_and, and_false, false_and, false_or, or_false, c3, c4, e1, sh, w0, n10, z, l1, k1, a1, rm_0_20 m1.1, b1, rm_0_1 m2.1, m2.2.2.1, g1, d1, rm_0_20 hR4, w1]
end
