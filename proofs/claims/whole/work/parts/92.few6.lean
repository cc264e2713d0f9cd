/-! unlike and mostDoors asked -/
def agP (fc : Option Int32) (fm : px_M → Option (Int32 × px_M)) (n : Nat) (B : Nat → Nat) : Prop := ∃ r, fc = some r ∧ ∀ τ, mo τ n B → ∃ υ, fm τ = some (r, υ) ∧ fk SM τ υ
section
variable {σ τ : px_M} {n : Nat} {B : Nat → Nat}
def KT (l j : Nat) : Bool := KM l j || tn l j
def KN (l j : Nat) : Bool := KM l j || l == 18
theorem KT_KM : ∀ l j, KT l j = false → KM l j = false := fun l j h => by
  simp only [KT, Bool.or_eq_false_iff] at h; exact h.1
theorem KT_tn : ∀ l j, KT l j = false → tn l j = false := fun l j h => by
  simp only [KT, Bool.or_eq_false_iff] at h; exact h.2
theorem SM_KN : ∀ l j, SM l j = false → KN l j = false := fun l j h => by
  simp only [KN, Bool.or_eq_false_iff]
  refine ⟨SM_KM l j h, ?_⟩
  cases q : l == 18 with
  | false => rfl
  | true => rw [beq_iff_eq] at q; subst q; simp [SM] at h
theorem ho_7 : ∀ j, j < 7 → nI j * (nI j - nI 1) / nI 2 = nI (ofs j) := by decide
theorem ofs_15 {n : Nat} (hn : n ≤ 6) : 2 ^ ofs n ≤ 2 ^ 15 := Nat.pow_le_pow_right (by omega) (ofs_t n (by omega)).2
/-- between keeping and coming back -/
theorem few_back {ρ υ ω : px_M} (h1 : fr (on 18) σ ρ) (h2 : ∀ k, k < 12 → ρ.1 18 k = σ.1 1 (1 + k)) (h3 : fr KT ρ υ) (h4 : fr tn υ ω) (h5 : ∀ k, k < 12 → ω.1 1 (1 + k) = υ.1 18 k) : fk SM σ ω := by
  refine fk_mono (fk_back (Q := KN) (ρ := υ) (fr_tr (fr_mono h1 (fun l j q => ?_)) (fr_mono h3 (fun l j q => ?_))) (fun _ => rfl) h4 (fun k hk => ?_)) SM_KN
  · simp only [KN, Bool.or_eq_false_iff] at q; exact q.1.2
  · simp only [KN, Bool.or_eq_false_iff] at q
    simp only [KT, Bool.or_eq_false_iff]; exact ⟨q.1.1, q.2⟩
  · rw [h5 k hk, h3.1 18 k rfl, h2 k hk]
theorem cnt_S (f : Nat → Bool) (d : Nat) : cnt f (d + 1) = cnt f d + (f d).toNat := rfl
theorem e_unl (hR : mR σ.2.2) {m : Nat} (hm : m < 6) (x : Int32) : ∃ υ, f_112_33 tT 0 (nI m) x (nI 0) (nI 0) σ = some (nI (cnt (fU m (decide (¬ x = nI 0))) (2 ^ ofs m)), υ) ∧ ∃ ρ, fr KT σ ρ ∧ fr tn ρ υ ∧ ∀ k, k < 12 → υ.1 1 (1 + k) = ρ.1 18 k := by
  have z : ¬ nI 2 = nI 0 := by decide
  have h15 := ofs_15 (show m ≤ 6 by omega)
  have ho := ho_7 m (by omega)
  have hof := (ofs_t m (by omega)).2
  suffices key : ∃ b, f_112_33 tT 0 (nI m) x (nI 0) (nI 0) σ = some b ∧ ∃ υ, b = (nI (cnt (fU m (decide (¬ x = nI 0))) (2 ^ ofs m)), υ) ∧ ∃ ρ, fr KT σ ρ ∧ fr tn ρ υ ∧ ∀ k, k < 12 → υ.1 1 (1 + k) = ρ.1 18 k by
    obtain ⟨b, q1, υ, rfl, q2⟩ := key
    exact ⟨υ, q1, q2⟩
  unfold f_112_33
  refine lp_for (F := fun s : Int32 × Int32 × px_M => F_112_33 tT 0 (nI m) x s.1 s.2.1 s.2.2) (fun d q => ∃ ρ, q = (nI (cnt (fU m (decide (¬ x = nI 0))) d), nI d, ρ) ∧ fr KT σ ρ) _ (2 ^ ofs m) (fun d q hd hI => ?_) (fun q hI => ?_) 0 (nI 0, nI 0, σ) (Nat.zero_le _) ⟨σ, rfl, fr_rf _ _⟩
  · obtain ⟨ρ, rfl, g1⟩ := hI
    have a1 : ¬ nI (2 ^ ofs m) ≤ nI d := by rw [nI_leI (by omega) (by omega)]; omega
    obtain ⟨χ, y1, y2, y3⟩ := e_becomes (mR_fr g1 hR) (show m ≤ 6 by omega) (d := d) (by omega)
    have pl := e_isPlain y3 x
    have hc := cnt_le (fU m (decide (¬ x = nI 0))) d
    have hU : fU m (decide (¬ x = nI 0)) d = (pln m (gD m d) (decide (¬ x = nI 0)) m && @decide (lmk m (gD m d) d) (Classical.propDecidable _)) := rfl
    cases hp : pln m (gD m d) (decide (¬ x = nI 0)) m with
    | false =>
      rw [hp, mb_f0] at pl
      rw [hp, Bool.false_and] at hU
      refine ⟨(nI (cnt (fU m (decide (¬ x = nI 0))) (d + 1)), nI (d + 1), χ), ?_, χ, rfl, fr_tr g1 (fr_mono y2 KT_tn)⟩
      rw [cnt_S, hU, Bool.toNat_false]
      generalize cnt (fU m (decide (¬ x = nI 0))) d = c at hc ⊢
      dsimp only
      unfold F_112_33 f_112_54 f_112_79
      simp only [z, ho, ni_1s (show ofs m < 31 by omega), a1, la_0, y1, pl, gd_tt, oA_arr, px_obj_s, Option.bind_some, Option.map_some, Option.bind_none, eq_self, true_or, or_true, px_av_0, px_av_1, px_av_2, px_av_10, px_av_11, bn, wi_1, wi_2, wl_1, wl_21, wl_22, wr_1, wr_21, wr_22, Sum.elim_inl, Sum.elim_inr, ↓reduceIte, Nat.reduceLT, Nat.reduceLeDiff, not_false_eq_true, not_true_eq_false, Nat.reduceEqDiff, Nat.reduceAdd, reduceCtorEq, and_true, true_and, and_false, false_and, false_or, or_false, nI_add, Nat.add_zero]
    | true =>
      rw [hp, mb_t1] at pl
      rw [hp, Bool.true_and] at hU
      obtain ⟨v, ψ, p1, p2, p3⟩ := e_markOf y3 (by omega)
      have hv : v < 2 ^ 15 := by
        obtain ⟨⟨p, -, e⟩, -⟩ := p2
        rw [← e]; exact mkS_15 (by omega)
      have w : fr KT σ ψ := fr_tr g1 (fr_tr (fr_mono y2 KT_tn) (fr_mono p3 KT_KM))
      refine ⟨(nI (cnt (fU m (decide (¬ x = nI 0))) (d + 1)), nI (d + 1), ψ), ?_, ψ, rfl, w⟩
      by_cases q : v = d
      · subst q
        rw [@decide_eq_true _ (Classical.propDecidable _) p2] at hU
        rw [cnt_S, hU, Bool.toNat_true]
        generalize cnt (fU m (decide (¬ x = nI 0))) v = c at hc ⊢
        dsimp only
        unfold F_112_33 f_112_54 f_112_79
        simp only [z, ho, ni_1s (show ofs m < 31 by omega), a1, la_0, y1, pl, n10, p1, gd_tt, oA_arr, px_obj_s, Option.bind_some, Option.map_some, Option.bind_none, eq_self, true_or, or_true, px_av_0, px_av_1, px_av_2, px_av_10, px_av_11, bn, wi_1, wi_2, wl_1, wl_21, wl_22, wr_1, wr_21, wr_22, Sum.elim_inl, Sum.elim_inr, ↓reduceIte, Nat.reduceLT, Nat.reduceLeDiff, not_false_eq_true, not_true_eq_false, Nat.reduceEqDiff, Nat.reduceAdd, reduceCtorEq, and_true, true_and, and_false, false_and, false_or, or_false, nI_add]
      · have a2 : ¬ nI v = nI d := by rw [nI_eq (by omega) (by omega)]; exact q
        rw [@decide_eq_false _ (Classical.propDecidable _) (fun h => q (lmk_uniq p2 h))] at hU
        rw [cnt_S, hU, Bool.toNat_false]
        generalize cnt (fU m (decide (¬ x = nI 0))) d = c at hc ⊢
        dsimp only
        unfold F_112_33 f_112_54 f_112_79
        simp only [z, ho, ni_1s (show ofs m < 31 by omega), a1, a2, la_0, y1, pl, n10, p1, gd_tt, oA_arr, px_obj_s, Option.bind_some, Option.map_some, Option.bind_none, eq_self, true_or, or_true, px_av_0, px_av_1, px_av_2, px_av_10, px_av_11, bn, wi_1, wi_2, wl_1, wl_21, wl_22, wr_1, wr_21, wr_22, Sum.elim_inl, Sum.elim_inr, ↓reduceIte, Nat.reduceLT, Nat.reduceLeDiff, not_false_eq_true, not_true_eq_false, Nat.reduceEqDiff, Nat.reduceAdd, reduceCtorEq, and_true, true_and, and_false, false_and, false_or, or_false, nI_add, Nat.add_zero]
  · obtain ⟨ρ, rfl, g1⟩ := hI
    have hRρ := mR_fr g1 hR
    have a1 : nI (2 ^ ofs m) ≤ nI (2 ^ ofs m) := by rw [nI_leI (by omega) (by omega)]; omega
    obtain ⟨ω, b1, b2, b3⟩ := e_isAgain hRρ la_18 (by decide)
    refine ⟨_, ?_, ω, rfl, ρ, g1, b2, b3⟩
    dsimp only
    unfold F_112_33 f_112_93
    simp only [z, ho, ni_1s (show ofs m < 31 by omega), a1, la_0, rm_0_18 hRρ, b1, gd_tt, oA_arr, px_obj_s, Option.bind_some, Option.map_some, Option.bind_none, eq_self, true_or, or_true, px_av_0, px_av_1, px_av_2, px_av_10, px_av_11, bn, wi_1, wi_2, wl_1, wl_21, wl_22, wr_1, wr_21, wr_22, Sum.elim_inl, Sum.elim_inr, ↓reduceIte, Nat.reduceLT, Nat.reduceLeDiff, not_false_eq_true, not_true_eq_false, Nat.reduceEqDiff, Nat.reduceAdd, reduceCtorEq, and_true, true_and, and_false, false_and, false_or, or_false]
theorem dT_le : ∀ n, n < 7 → ∀ z : Bool, dT z n ≤ 9 := by decide
theorem mxd_S (n : Nat) (z : Bool) (d : Nat) : mxd n z (d + 1) = if decide (mxd n z d < dm n (gD n d)) && pln n (gD n d) z n then dm n (gD n d) else mxd n z d := rfl
theorem e_mst (hR : mR σ.2.2) {m : Nat} (hm : m < 7) (x : Int32) : ∃ υ, f_113_33 tT 0 (nI m) x (nI 0) (nI 0) σ = some (nI (mxd m (decide (¬ x = nI 0)) (2 ^ ofs m)), υ) ∧ ∃ ρ, fr KT σ ρ ∧ fr tn ρ υ ∧ ∀ k, k < 12 → υ.1 1 (1 + k) = ρ.1 18 k := by
  have z : ¬ nI 2 = nI 0 := by decide
  have h15 := ofs_15 (show m ≤ 6 by omega)
  have ho := ho_7 m (by omega)
  have hof := (ofs_t m (by omega)).2
  suffices key : ∃ b, f_113_33 tT 0 (nI m) x (nI 0) (nI 0) σ = some b ∧ ∃ υ, b = (nI (mxd m (decide (¬ x = nI 0)) (2 ^ ofs m)), υ) ∧ ∃ ρ, fr KT σ ρ ∧ fr tn ρ υ ∧ ∀ k, k < 12 → υ.1 1 (1 + k) = ρ.1 18 k by
    obtain ⟨b, q1, υ, rfl, q2⟩ := key
    exact ⟨υ, q1, q2⟩
  unfold f_113_33
  refine lp_for (F := fun s : Int32 × Int32 × px_M => F_113_33 tT 0 (nI m) x s.1 s.2.1 s.2.2) (fun d q => ∃ ρ, q = (nI (mxd m (decide (¬ x = nI 0)) d), nI d, ρ) ∧ fr KT σ ρ ∧ mxd m (decide (¬ x = nI 0)) d ≤ 100) _ (2 ^ ofs m) (fun d q hd hI => ?_) (fun q hI => ?_) 0 (nI 0, nI 0, σ) (Nat.zero_le _) ⟨σ, rfl, fr_rf _ _, Nat.zero_le _⟩
  · obtain ⟨ρ, rfl, g1, g2⟩ := hI
    have a1 : ¬ nI (2 ^ ofs m) ≤ nI d := by rw [nI_leI (by omega) (by omega)]; omega
    obtain ⟨χ, y1, y2, y3⟩ := e_becomes (mR_fr g1 hR) (show m ≤ 6 by omega) (d := d) (by omega)
    have pl := e_isPlain y3 x
    have dr := e_doorMany y3
    have hdl := dm_le y3.2.1
    have w : fr KT σ χ := fr_tr g1 (fr_mono y2 KT_tn)
    rw [mxd_S]
    generalize mxd m (decide (¬ x = nI 0)) d = c at g2 ⊢
    generalize dm m (gD m d) = e at dr hdl ⊢
    by_cases q : c < e
    · have a2 : ¬ nI e ≤ nI c := by rw [nI_leI (by omega) (by omega)]; omega
      rw [decide_eq_true q, Bool.true_and]
      cases hp : pln m (gD m d) (decide (¬ x = nI 0)) m with
      | false =>
        rw [hp, mb_f0] at pl
        rw [if_neg Bool.false_ne_true]
        refine ⟨(nI c, nI (d + 1), χ), ?_, χ, rfl, w, g2⟩
        dsimp only
        unfold F_113_33 f_113_62 f_113_75
        simp only [z, ho, ni_1s (show ofs m < 31 by omega), a1, a2, la_0, y1, dr, pl, gd_tt, oA_arr, px_obj_s, Option.bind_some, Option.map_some, Option.bind_none, eq_self, true_or, or_true, px_av_0, px_av_1, px_av_2, px_av_10, px_av_11, bn, wi_1, wi_2, wl_1, wl_21, wl_22, wr_1, wr_21, wr_22, Sum.elim_inl, Sum.elim_inr, ↓reduceIte, Nat.reduceLT, Nat.reduceLeDiff, not_false_eq_true, not_true_eq_false, Nat.reduceEqDiff, Nat.reduceAdd, reduceCtorEq, and_true, true_and, and_false, false_and, false_or, or_false, nI_add]
      | true =>
        rw [hp, mb_t1] at pl
        rw [if_pos rfl]
        refine ⟨(nI e, nI (d + 1), χ), ?_, χ, rfl, w, by omega⟩
        dsimp only
        unfold F_113_33 f_113_62 f_113_75
        simp only [z, ho, ni_1s (show ofs m < 31 by omega), a1, a2, la_0, y1, dr, pl, n10, gd_tt, oA_arr, px_obj_s, Option.bind_some, Option.map_some, Option.bind_none, eq_self, true_or, or_true, px_av_0, px_av_1, px_av_2, px_av_10, px_av_11, bn, wi_1, wi_2, wl_1, wl_21, wl_22, wr_1, wr_21, wr_22, Sum.elim_inl, Sum.elim_inr, ↓reduceIte, Nat.reduceLT, Nat.reduceLeDiff, not_false_eq_true, not_true_eq_false, Nat.reduceEqDiff, Nat.reduceAdd, reduceCtorEq, and_true, true_and, and_false, false_and, false_or, or_false, nI_add]
    · have a2 : nI e ≤ nI c := by rw [nI_leI (by omega) (by omega)]; omega
      rw [decide_eq_false q, Bool.false_and, if_neg Bool.false_ne_true]
      refine ⟨(nI c, nI (d + 1), χ), ?_, χ, rfl, w, g2⟩
      dsimp only
      unfold F_113_33 f_113_75
      simp only [z, ho, ni_1s (show ofs m < 31 by omega), a1, a2, la_0, y1, dr, gd_tt, oA_arr, px_obj_s, Option.bind_some, Option.map_some, Option.bind_none, eq_self, true_or, or_true, px_av_0, px_av_1, px_av_2, px_av_10, px_av_11, bn, wi_1, wi_2, wl_1, wl_21, wl_22, wr_1, wr_21, wr_22, Sum.elim_inl, Sum.elim_inr, ↓reduceIte, Nat.reduceLT, Nat.reduceLeDiff, not_false_eq_true, not_true_eq_false, Nat.reduceEqDiff, Nat.reduceAdd, reduceCtorEq, and_true, true_and, and_false, false_and, false_or, or_false, nI_add]
  · obtain ⟨ρ, rfl, g1, -⟩ := hI
    have hRρ := mR_fr g1 hR
    have a1 : nI (2 ^ ofs m) ≤ nI (2 ^ ofs m) := by rw [nI_leI (by omega) (by omega)]; omega
    obtain ⟨ω, b1, b2, b3⟩ := e_isAgain hRρ la_18 (by decide)
    refine ⟨_, ?_, ω, rfl, ρ, g1, b2, b3⟩
    dsimp only
    unfold F_113_33
    simp only [z, ho, ni_1s (show ofs m < 31 by omega), a1, la_0, rm_0_18 hRρ, b1, gd_tt, oA_arr, px_obj_s, Option.bind_some, Option.map_some, Option.bind_none, eq_self, true_or, or_true, px_av_0, px_av_1, px_av_2, px_av_10, px_av_11, bn, wi_1, wi_2, wl_1, wl_21, wl_22, wr_1, wr_21, wr_22, Sum.elim_inl, Sum.elim_inr, ↓reduceIte, Nat.reduceLT, Nat.reduceLeDiff, not_false_eq_true, not_true_eq_false, Nat.reduceEqDiff, Nat.reduceAdd, reduceCtorEq, and_true, true_and, and_false, false_and, false_or, or_false]
theorem uT_x : ∀ n, n < 6 → pn_xv 2000 n = nI (uT false n) ∧ pn_xv 2001 n = nI (uT true n) := by decide
theorem dT_x : ∀ n, n < 7 → pn_xv 2002 n = nI (dT false n) ∧ pn_xv 2003 n = nI (dT true n) := by decide
theorem a_unlike (σ : px_M) (n : Nat) (B : Nat → Nat) (x z : Int32) : agP (f_12042 tT σ 100 x z) (fun τ => f_112 tT τ 0 x z) n B := by
  rcases rg_cases x 0 5 (by omega) with ⟨m, -, hm, rfl⟩ | h
  · replace hm : m < 6 := by omega
    have hti : (nI m).toInt = m := nI_toInt (by omega)
    have a1 : ¬ nI m < nI 0 := by rw [nI_ltI (by omega) (by omega)]; omega
    have a2 : ¬ nI 6 ≤ nI m := by rw [nI_leI (by omega) (by omega)]; omega
    have a3 : nI m < nI 6 := by rw [nI_ltI (by omega) (by omega)]; omega
    have c1 : vp_in (nI m) 6 := (vp_in_eq (by omega)).mpr (by omega)
    have c2 : (nI m).toNatClampNeg = m := nI_clamp (by omega)
    obtain ⟨x1, x2⟩ := uT_x m hm
    refine ⟨nI (uT (decide (¬ z = nI 0)) m), ?_, fun τ hmo => ?_⟩
    · by_cases q : z = nI 0
      · rw [decide_eq_false (by rw [Classical.not_not]; exact q)]
        simp only [f_12042, a1, a2, a3, la_2000, la_2001, q, c1, c2, x1, gd_tt, oA_arr, px_obj_s, Option.bind_some, Option.map_some, Option.bind_none, eq_self, true_or, or_true, px_av_0, px_av_1, px_av_2, px_av_10, px_av_11, bn, wi_1, wi_2, wl_1, wl_21, wl_22, wr_1, wr_21, wr_22, Sum.elim_inl, Sum.elim_inr, ↓reduceIte, Nat.reduceLT, Nat.reduceLeDiff, not_false_eq_true, not_true_eq_false, Nat.reduceEqDiff, Nat.reduceAdd, reduceCtorEq, and_true, true_and, and_false, false_and, false_or, or_false]
      · rw [decide_eq_true q]
        simp only [f_12042, a1, a2, a3, la_2000, la_2001, q, c1, c2, x2, gd_tt, oA_arr, px_obj_s, Option.bind_some, Option.map_some, Option.bind_none, eq_self, true_or, or_true, px_av_0, px_av_1, px_av_2, px_av_10, px_av_11, bn, wi_1, wi_2, wl_1, wl_21, wl_22, wr_1, wr_21, wr_22, Sum.elim_inl, Sum.elim_inr, ↓reduceIte, Nat.reduceLT, Nat.reduceLeDiff, not_false_eq_true, not_true_eq_false, Nat.reduceEqDiff, Nat.reduceAdd, reduceCtorEq, and_true, true_and, and_false, false_and, false_or, or_false]
    · have hR := (mo_thr hmo).1
      obtain ⟨ρ, k1, k2, k3⟩ := e_keeps hR la_18 (by decide)
      obtain ⟨υ, y1, χ, y2, y3, y4⟩ := e_unl (mR_fr k2 hR) hm z
      rw [u_all hm] at y1
      refine ⟨υ, ?_, fk_tr fk_thr (few_back k2 k3 y2 y3 y4)⟩
      have wt := e_withinN (px_wi τ 0 0 (nI 0)) (nI m) (lo := 0) (hi := 5) (by omega) (by omega)
      rw [decide_eq_true (by omega), mb_t1] at wt
      show f_112 tT τ 0 (nI m) z = _
      unfold f_112 f_112_28
      generalize px_wi τ 0 0 (nI 0) = ψ at hR k1 wt ⊢
      simp only [la_0, wt, n10, rm_0_18 hR, k1, y1, gd_tt, oA_arr, px_obj_s, Option.bind_some, Option.map_some, Option.bind_none, eq_self, true_or, or_true, px_av_0, px_av_1, px_av_2, px_av_10, px_av_11, bn, wi_1, wi_2, wl_1, wl_21, wl_22, wr_1, wr_21, wr_22, Sum.elim_inl, Sum.elim_inr, ↓reduceIte, Nat.reduceLT, Nat.reduceLeDiff, not_false_eq_true, not_true_eq_false, Nat.reduceEqDiff, Nat.reduceAdd, reduceCtorEq, and_true, true_and, and_false, false_and, false_or, or_false]
  · refine ⟨-3, ?_, fun τ hmo => ⟨_, ?_, fk_thr⟩⟩
    · by_cases q : x < nI 0
      · simp only [f_12042, q, gd_tt, oA_arr, px_obj_s, Option.bind_some, Option.map_some, Option.bind_none, eq_self, true_or, or_true, px_av_0, px_av_1, px_av_2, px_av_10, px_av_11, bn, wi_1, wi_2, wl_1, wl_21, wl_22, wr_1, wr_21, wr_22, Sum.elim_inl, Sum.elim_inr, ↓reduceIte, Nat.reduceLT, Nat.reduceLeDiff, not_false_eq_true, not_true_eq_false, Nat.reduceEqDiff, Nat.reduceAdd, reduceCtorEq, and_true, true_and, and_false, false_and, false_or, or_false]
      · have a2 : nI 6 ≤ x := by
          rw [Int32.lt_iff_toInt_lt] at q
          rw [Int32.le_iff_toInt_le]
          have e0 : (nI 0).toInt = 0 := by decide
          have e6 : (nI 6).toInt = 6 := by decide
          omega
        simp only [f_12042, q, a2, la_2000, gd_tt, oA_arr, px_obj_s, Option.bind_some, Option.map_some, Option.bind_none, eq_self, true_or, or_true, px_av_0, px_av_1, px_av_2, px_av_10, px_av_11, bn, wi_1, wi_2, wl_1, wl_21, wl_22, wr_1, wr_21, wr_22, Sum.elim_inl, Sum.elim_inr, ↓reduceIte, Nat.reduceLT, Nat.reduceLeDiff, not_false_eq_true, not_true_eq_false, Nat.reduceEqDiff, Nat.reduceAdd, reduceCtorEq, and_true, true_and, and_false, false_and, false_or, or_false]
    · have wt := e_withinN (px_wi τ 0 0 (nI 0)) x (lo := 0) (hi := 5) (by omega) (by omega)
      rw [decide_eq_false (by omega), mb_f0] at wt
      show f_112 tT τ 0 x z = _
      unfold f_112
      generalize px_wi τ 0 0 (nI 0) = ψ at wt ⊢
      simp only [la_0, wt, gd_tt, oA_arr, px_obj_s, Option.bind_some, Option.map_some, Option.bind_none, eq_self, true_or, or_true, px_av_0, px_av_1, px_av_2, px_av_10, px_av_11, bn, wi_1, wi_2, wl_1, wl_21, wl_22, wr_1, wr_21, wr_22, Sum.elim_inl, Sum.elim_inr, ↓reduceIte, Nat.reduceLT, Nat.reduceLeDiff, not_false_eq_true, not_true_eq_false, Nat.reduceEqDiff, Nat.reduceAdd, reduceCtorEq, and_true, true_and, and_false, false_and, false_or, or_false]
theorem a_mostDoors (σ : px_M) (n : Nat) (B : Nat → Nat) (x z : Int32) : agP (f_12043 tT σ 100 x z) (fun τ => f_113 tT τ 0 x z) n B := by
  rcases rg_cases x 0 6 (by omega) with ⟨m, -, hm, rfl⟩ | h
  · replace hm : m < 7 := by omega
    have hti : (nI m).toInt = m := nI_toInt (by omega)
    have a1 : ¬ nI m < nI 0 := by rw [nI_ltI (by omega) (by omega)]; omega
    have a2 : ¬ nI 7 ≤ nI m := by rw [nI_leI (by omega) (by omega)]; omega
    have a3 : nI m < nI 7 := by rw [nI_ltI (by omega) (by omega)]; omega
    have c1 : vp_in (nI m) 7 := (vp_in_eq (by omega)).mpr (by omega)
    have c2 : (nI m).toNatClampNeg = m := nI_clamp (by omega)
    obtain ⟨x1, x2⟩ := dT_x m hm
    refine ⟨nI (dT (decide (¬ z = nI 0)) m), ?_, fun τ hmo => ?_⟩
    · by_cases q : z = nI 0
      · rw [decide_eq_false (by rw [Classical.not_not]; exact q)]
        simp only [f_12043, a1, a2, a3, la_2002, la_2003, q, c1, c2, x1, gd_tt, oA_arr, px_obj_s, Option.bind_some, Option.map_some, Option.bind_none, eq_self, true_or, or_true, px_av_0, px_av_1, px_av_2, px_av_10, px_av_11, bn, wi_1, wi_2, wl_1, wl_21, wl_22, wr_1, wr_21, wr_22, Sum.elim_inl, Sum.elim_inr, ↓reduceIte, Nat.reduceLT, Nat.reduceLeDiff, not_false_eq_true, not_true_eq_false, Nat.reduceEqDiff, Nat.reduceAdd, reduceCtorEq, and_true, true_and, and_false, false_and, false_or, or_false]
      · rw [decide_eq_true q]
        simp only [f_12043, a1, a2, a3, la_2002, la_2003, q, c1, c2, x2, gd_tt, oA_arr, px_obj_s, Option.bind_some, Option.map_some, Option.bind_none, eq_self, true_or, or_true, px_av_0, px_av_1, px_av_2, px_av_10, px_av_11, bn, wi_1, wi_2, wl_1, wl_21, wl_22, wr_1, wr_21, wr_22, Sum.elim_inl, Sum.elim_inr, ↓reduceIte, Nat.reduceLT, Nat.reduceLeDiff, not_false_eq_true, not_true_eq_false, Nat.reduceEqDiff, Nat.reduceAdd, reduceCtorEq, and_true, true_and, and_false, false_and, false_or, or_false]
    · have hR := (mo_thr hmo).1
      obtain ⟨ρ, k1, k2, k3⟩ := e_keeps hR la_18 (by decide)
      obtain ⟨υ, y1, χ, y2, y3, y4⟩ := e_mst (mR_fr k2 hR) hm z
      rw [mxd_all (by omega)] at y1
      refine ⟨υ, ?_, fk_tr fk_thr (few_back k2 k3 y2 y3 y4)⟩
      have wt := e_withinN (px_wi τ 0 0 (nI 0)) (nI m) (lo := 0) (hi := 6) (by omega) (by omega)
      rw [decide_eq_true (by omega), mb_t1] at wt
      show f_113 tT τ 0 (nI m) z = _
      unfold f_113 f_113_28
      generalize px_wi τ 0 0 (nI 0) = ψ at hR k1 wt ⊢
      simp only [la_0, wt, n10, rm_0_18 hR, k1, y1, gd_tt, oA_arr, px_obj_s, Option.bind_some, Option.map_some, Option.bind_none, eq_self, true_or, or_true, px_av_0, px_av_1, px_av_2, px_av_10, px_av_11, bn, wi_1, wi_2, wl_1, wl_21, wl_22, wr_1, wr_21, wr_22, Sum.elim_inl, Sum.elim_inr, ↓reduceIte, Nat.reduceLT, Nat.reduceLeDiff, not_false_eq_true, not_true_eq_false, Nat.reduceEqDiff, Nat.reduceAdd, reduceCtorEq, and_true, true_and, and_false, false_and, false_or, or_false]
  · refine ⟨-3, ?_, fun τ hmo => ⟨_, ?_, fk_thr⟩⟩
    · by_cases q : x < nI 0
      · simp only [f_12043, q, gd_tt, oA_arr, px_obj_s, Option.bind_some, Option.map_some, Option.bind_none, eq_self, true_or, or_true, px_av_0, px_av_1, px_av_2, px_av_10, px_av_11, bn, wi_1, wi_2, wl_1, wl_21, wl_22, wr_1, wr_21, wr_22, Sum.elim_inl, Sum.elim_inr, ↓reduceIte, Nat.reduceLT, Nat.reduceLeDiff, not_false_eq_true, not_true_eq_false, Nat.reduceEqDiff, Nat.reduceAdd, reduceCtorEq, and_true, true_and, and_false, false_and, false_or, or_false]
      · have a2 : nI 7 ≤ x := by
          rw [Int32.lt_iff_toInt_lt] at q
          rw [Int32.le_iff_toInt_le]
          have e0 : (nI 0).toInt = 0 := by decide
          have e6 : (nI 7).toInt = 7 := by decide
          omega
        simp only [f_12043, q, a2, la_2002, gd_tt, oA_arr, px_obj_s, Option.bind_some, Option.map_some, Option.bind_none, eq_self, true_or, or_true, px_av_0, px_av_1, px_av_2, px_av_10, px_av_11, bn, wi_1, wi_2, wl_1, wl_21, wl_22, wr_1, wr_21, wr_22, Sum.elim_inl, Sum.elim_inr, ↓reduceIte, Nat.reduceLT, Nat.reduceLeDiff, not_false_eq_true, not_true_eq_false, Nat.reduceEqDiff, Nat.reduceAdd, reduceCtorEq, and_true, true_and, and_false, false_and, false_or, or_false]
    · have wt := e_withinN (px_wi τ 0 0 (nI 0)) x (lo := 0) (hi := 6) (by omega) (by omega)
      rw [decide_eq_false (by omega), mb_f0] at wt
      show f_113 tT τ 0 x z = _
      unfold f_113
      generalize px_wi τ 0 0 (nI 0) = ψ at wt ⊢
      simp only [la_0, wt, gd_tt, oA_arr, px_obj_s, Option.bind_some, Option.map_some, Option.bind_none, eq_self, true_or, or_true, px_av_0, px_av_1, px_av_2, px_av_10, px_av_11, bn, wi_1, wi_2, wl_1, wl_21, wl_22, wr_1, wr_21, wr_22, Sum.elim_inl, Sum.elim_inr, ↓reduceIte, Nat.reduceLT, Nat.reduceLeDiff, not_false_eq_true, not_true_eq_false, Nat.reduceEqDiff, Nat.reduceAdd, reduceCtorEq, and_true, true_and, and_false, false_and, false_or, or_false]
end
