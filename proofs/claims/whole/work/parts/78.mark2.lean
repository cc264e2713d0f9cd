/-! mark: the model's half -/
section
variable {σ τ : px_M} {t n : Nat} {B : Nat → Nat}
def KM (l j : Nat) : Bool := l == 27 || (l == 0 && j == 29)
theorem e_bitAt (σ : px_M) {a b : Nat} (ha : a < 6) (hb : b < 6) : f_102 tT σ (nI a) (nI b) = some (nI (eb a b)) := by
  have z : ¬ nI 2 = nI 0 := by decide
  have ho : ∀ j, j < 6 → nI j * (nI j - nI 1) / nI 2 = nI (ofs j) := by decide
  unfold f_102 eb
  by_cases h : b ≤ a
  · rw [if_pos (by rw [nI_leI (by omega) (by omega)]; exact h), if_pos h, gd_t z, ho a ha, nI_add]
  · rw [if_neg (by rw [nI_leI (by omega) (by omega)]; exact h), if_neg h, gd_t z, ho b hb, nI_add]
theorem eb_lt {a b : Nat} (ha : a < 6) (hb : b < 6) : eb a b < 21 := by
  have : ∀ a, a < 6 → ∀ b, b < 6 → eb a b < 21 := by decide
  exact this a ha b hb
theorem mki_lt {q : Nat → Nat} {h : Nat} (hq : ∀ i, i ≤ h → q i < 6) : ∀ k, k ≤ h → mki B q h k < 2 ^ 21 := by
  intro k hk
  refine lt_tb (fun x hx => ?_)
  obtain ⟨i, h1, h2, rfl⟩ := (mki_tb B q h x k).mp hx
  exact eb_lt (hq h (Nat.le_refl _)) (hq i (by omega))
theorem mkM_lt {q : Nat → Nat} : ∀ m, (∀ i, i < m → q i < 6) → mkM B q m < 2 ^ 21 := by
  intro m hq
  refine lt_tb (fun x hx => ?_)
  obtain ⟨h, i, h1, h2, h3, rfl⟩ := (mkM_tb B q x m).mp hx
  exact eb_lt (hq h h2) (hq i (by omega))
theorem KM_1 : ∀ j, KM 1 j = false := fun _ => rfl
theorem mo_KM {υ : px_M} (h : fr KM σ υ) (hm : mo σ n B) : mo υ n B := mo_fr h KM_1 hm
theorem oI_le (L : Option Nat) (v : Nat) (hL : ∀ u, L = some u → u < 2 ^ 31) (hv : v < 2 ^ 31) : (if oI L = -1 then nI v else (if oI L ≤ nI v then oI L else nI v)) = oI (lmin L v) := by
  cases L with
  | none => rfl
  | some u =>
    have h1 := hL u rfl
    show (if nI u = -1 then nI v else (if nI u ≤ nI v then nI u else nI v)) = nI (if v < u then v else u)
    rw [if_neg (nI_m1 h1)]
    by_cases q : v < u
    · rw [if_pos q, if_neg (by rw [nI_leI h1 hv]; omega)]
    · rw [if_neg q, if_pos (by rw [nI_leI h1 hv]; omega)]
theorem e_num (hw : wf n B) (hn6 : n ≤ 6) : ∀ k j, j + k = n → ∀ d, k + 1 ≤ d → ∀ (σ : px_M) (m : Nat → Nat) (L : Option Nat), mo σ n B → bgn n j m → (∀ i, i < j → σ.1 27 i = nI (m i)) → σ.1 0 29 = oI L → (∀ u, L = some u → u < 2 ^ 21) → ∃ υ L', f_103 tT d σ 0 (nI j) (nI (tk m j)) (nI (mkM B m j)) = some υ ∧ υ.1 0 29 = oI L' ∧ LO (fun p => mkM B p n) (exq n j m) L L' ∧ (∀ u, L' = some u → u < 2 ^ 21) ∧ fr KM σ υ ∧ ∀ i, i < j → υ.1 27 i = σ.1 27 i := by
  have k1 : vp_in (nI 1) 3216 := (vp_in_eq (by omega)).mpr (by omega)
  have k2 : (nI 1).toNatClampNeg = 1 := nI_clamp (by omega)
  intro k
  induction k with
  | zero =>
    intro j hj d hd σ m L hmo hb hm hL hLb
    have hjn : j = n := by omega
    subst hjn
    obtain ⟨d, rfl⟩ : ∃ d', d = d' + 1 := ⟨d - 1, by omega⟩
    have hmk := mkM_lt (B := B) (q := m) j (fun i hi => by have := hb.1 i hi; omega)
    obtain ⟨hR, -, e1, -⟩ := id hmo
    refine ⟨px_wi σ 0 29 (oI (lmin L (mkM B m j))), lmin L (mkM B m j), ?_, wi_s _ _ _ _, LO_one L (fun p hp => mkM_congr hp.2) ⟨m, hb, fun _ _ => rfl⟩, fun u hu => ?_, fr_wi (fr_rf _ _) _ rfl, fun i hi => wi_n (by decide)⟩
    · rw [f_103_S]
      have e := oI_le L (mkM B m j) (fun u hu => by have := hLb u hu; omega) (by omega)
      unfold F_103
      by_cases q : oI L = -1
      · rw [if_pos q] at e
        simp only [la_0, la_1, rm_0_1 hR, k1, k2, e1, hL, q, gd_tt, oA_arr, px_obj_s, Option.bind_some, Option.map_some, Option.bind_none, eq_self, true_or, or_true, px_av_0, px_av_1, px_av_2, px_av_10, px_av_11, bn, wi_1, wi_2, wl_1, wl_21, wl_22, wr_1, wr_21, wr_22, Sum.elim_inl, Sum.elim_inr, ↓reduceIte, Nat.reduceLT, Nat.reduceLeDiff, not_false_eq_true, not_true_eq_false, Nat.reduceEqDiff, Nat.reduceAdd, reduceCtorEq, and_true, true_and, and_false, false_and, false_or, or_false, e]
      · rw [if_neg q] at e
        by_cases q2 : oI L ≤ nI (mkM B m j)
        · rw [if_pos q2] at e
          rw [← e]
          simp only [la_0, la_1, rm_0_1 hR, k1, k2, e1, hL, q, q2, gd_tt, oA_arr, px_obj_s, Option.bind_some, Option.map_some, Option.bind_none, eq_self, true_or, or_true, px_av_0, px_av_1, px_av_2, px_av_10, px_av_11, bn, wi_1, wi_2, wl_1, wl_21, wl_22, wr_1, wr_21, wr_22, Sum.elim_inl, Sum.elim_inr, ↓reduceIte, Nat.reduceLT, Nat.reduceLeDiff, not_false_eq_true, not_true_eq_false, Nat.reduceEqDiff, Nat.reduceAdd, reduceCtorEq, and_true, true_and, and_false, false_and, false_or, or_false]
        · rw [if_neg q2] at e
          rw [← e]
          simp only [la_0, la_1, rm_0_1 hR, k1, k2, e1, hL, q, q2, gd_tt, oA_arr, px_obj_s, Option.bind_some, Option.map_some, Option.bind_none, eq_self, true_or, or_true, px_av_0, px_av_1, px_av_2, px_av_10, px_av_11, bn, wi_1, wi_2, wl_1, wl_21, wl_22, wr_1, wr_21, wr_22, Sum.elim_inl, Sum.elim_inr, ↓reduceIte, Nat.reduceLT, Nat.reduceLeDiff, not_false_eq_true, not_true_eq_false, Nat.reduceEqDiff, Nat.reduceAdd, reduceCtorEq, and_true, true_and, and_false, false_and, false_or, or_false]
    · cases L with
      | none => simp only [lmin, Option.some.injEq] at hu; omega
      | some w =>
        have := hLb w rfl
        simp only [lmin, Option.some.injEq] at hu
        split at hu <;> omega
  | succ k ih =>
    intro j hj d hd σ m L hmo hb hm hL hLb
    obtain ⟨d, rfl⟩ : ∃ d', d = d' + 1 := ⟨d - 1, by omega⟩
    have hjn : j < n := by omega
    obtain ⟨hR, -, e1, -⟩ := id hmo
    have htl := tk_lt hb.1
    have hp := pw_le hw.1
    have a1 : ¬ nI j = nI n := by rw [nI_eq (by omega) (by omega)]; omega
    have c1 : vp_in (nI j) 11 := (vp_in_eq (by omega)).mpr (by omega)
    have c2 : (nI j).toNatClampNeg = j := nI_clamp (by omega)
    have lp : ∃ υ, f_103_42 tT (f_103 tT d) 0 (nI j) (nI (tk m j)) (nI (mkM B m j)) (nI 0) σ = some υ ∧ ∃ L', υ.1 0 29 = oI L' ∧ LO (fun p => mkM B p n) (exq n j m) L L' ∧ (∀ u, L' = some u → u < 2 ^ 21) ∧ fr KM σ υ ∧ ∀ i, i < j → υ.1 27 i = σ.1 27 i := by
      unfold f_103_42
      refine lp_for (F := fun s : Int32 × px_M => F_103_42 tT (f_103 tT d) 0 (nI j) (nI (tk m j)) (nI (mkM B m j)) s.1 s.2) (fun h q => ∃ ρ L', q = (nI h, ρ) ∧ ρ.1 0 29 = oI L' ∧ LO (fun p => mkM B p n) (fun p => exq n j m p ∧ p j < h) L L' ∧ (∀ u, L' = some u → u < 2 ^ 21) ∧ fr KM σ ρ ∧ ∀ i, i < j → ρ.1 27 i = σ.1 27 i) _ n (fun h q hh hI => ?_) (fun q hI => ?_) 0 (nI 0, σ) (by omega) ⟨σ, L, rfl, hL, LO_no (fun p hp => by omega) L, hLb, fr_rf _ _, fun _ _ => rfl⟩
      · obtain ⟨ρ, L1, rfl, g1, g2, g3, g4, g5⟩ := hI
        have hmρ := mo_KM g4 hmo
        obtain ⟨hRρ, -, e1ρ, -⟩ := id hmρ
        have b1 : ¬ nI n ≤ nI h := by rw [nI_leI (by omega) (by omega)]; omega
        have l0 : (nI (tk m j)).toInt64 = lN (tk m j) := nI_l (by omega)
        have tst := e_isIn ρ (s := tk m j) (j := h) (by omega) (by omega)
        cases hf : (tk m j).testBit h with
        | true =>
          rw [hf, mb_t1] at tst
          refine ⟨(nI (h + 1), ρ), ?_, ρ, L1, rfl, g1, LO_cg (fun p => ?_) g2, g3, g4, g5⟩
          · dsimp only
            unfold F_103_42 f_103_144
            simp only [la_0, la_1, rm_0_1 hRρ, k1, k2, e1ρ, b1, gd_tt, oA_arr, px_obj_s, Option.bind_some, Option.map_some, Option.bind_none, eq_self, true_or, or_true, px_av_0, px_av_1, px_av_2, px_av_10, px_av_11, bn, wi_1, wi_2, wl_1, wl_21, wl_22, wr_1, wr_21, wr_22, Sum.elim_inl, Sum.elim_inr, ↓reduceIte, Nat.reduceLT, Nat.reduceLeDiff, not_false_eq_true, not_true_eq_false, Nat.reduceEqDiff, Nat.reduceAdd, reduceCtorEq, and_true, true_and, and_false, false_and, false_or, or_false, l0, tst, n10, nI_add]
          · constructor
            · rintro ⟨z1, z2⟩
              refine ⟨z1, ?_⟩
              by_cases q : p j = h
              · exact absurd ⟨z1, q⟩ (exq_no hjn hf)
              · omega
            · rintro ⟨z1, z2⟩; exact ⟨z1, by omega⟩
        | false =>
          rw [hf, mb_f0] at tst
          obtain ⟨ω, hω⟩ : ∃ ω, px_wi ρ 27 j (nI h) = ω := ⟨_, rfl⟩
          have w1 : fr KM ρ ω := by rw [← hω]; exact fr_wi (fr_rf _ _) _ rfl
          have hmω := mo_KM w1 hmρ
          obtain ⟨hRω, -, -, -⟩ := id hmω
          have mω : ∀ i, i < j → ω.1 27 i = nI (m i) := fun i hi => by
            rw [← hω]
            show px_up ρ.1 27 j _ 27 i = _
            rw [up_s, if_neg (by omega), g5 i hi]; exact hm i hi
          have mω2 : ∀ i, i < j + 1 → ω.1 27 i = nI (upm m j h i) := fun i hi => by
            by_cases q : i = j
            · subst q; rw [upm_s, ← hω]; exact wi_s _ _ _ _
            · rw [upm_n q]; exact mω i (by omega)
          have hub := bgn_up hb hh hf
          obtain ⟨υ, L2, y1, y2, y3, y4, y5, y6⟩ := ih (j + 1) (by omega) d (by omega) ω (upm m j h) L1 hmω hub mω2 (by rw [← hω, wi_n (by decide)]; exact g1) g3
          rw [tk_up] at y1
          have hmM : mkM B (upm m j h) (j + 1) = mkM B m j ||| mki B (upm m j h) j j := by
            simp only [mkM]
            rw [mkM_congr (q := m) (fun i hi => upm_n (by omega))]
          -- the doors of the house
          have inner : f_103_80 tT (f_103 tT d) ω 0 (nI j) (nI (tk m j)) (nI (mkM B m j)) (nI h) (nI (mkM B m j)) (nI 0) = some (.inl (nI (h + 1), υ)) := by
            unfold f_103_80
            have e0 : mkM B m j ||| mki B (upm m j h) j 0 = mkM B m j := Nat.or_zero _
            suffices key : lpO (fun s : Int32 × Int32 => F_103_80 tT (f_103 tT d) ω 0 (nI j) (nI (tk m j)) (nI (mkM B m j)) (nI h) s.1 s.2) (nI (mkM B m j ||| mki B (upm m j h) j 0), nI 0) = some (.inl (nI (h + 1), υ)) by
              rw [e0] at key; exact key
            refine lp_to (fun i => (nI (mkM B m j ||| mki B (upm m j h) j i), nI i)) j (fun i hi => ?_) ?_ 0 (by omega)
            · have hBj := wf_2048 hw j
              have n1 := e_near hmω (show j < 11 by omega)
              have n2 := e_isIn ω (s := B j) (j := i) (by omega) (by omega)
              have l3 : (nI (B j)).toInt64 = lN (B j) := nI_l (by omega)
              have b3 : ¬ nI j ≤ nI i := by rw [nI_leI (by omega) (by omega)]; omega
              have d1 : vp_in (nI i) 11 := (vp_in_eq (by omega)).mpr (by omega)
              have d2 : (nI i).toNatClampNeg = i := nI_clamp (by omega)
              have hmi := hb.1 i hi
              have ba := e_bitAt ω (a := h) (b := m i) (by omega) (by omega)
              have hebl := eb_lt (a := h) (b := m i) (by omega) (by omega)
              have hki : mki B (upm m j h) j (i + 1) = mki B (upm m j h) j i ||| (if (B j).testBit i = true then 2 ^ eb h (m i) else 0) := by
                simp only [mki]
                rw [upm_s, upm_n (by omega)]
              dsimp only
              rw [hki, ← Nat.or_assoc]
              generalize mkM B m j ||| mki B (upm m j h) j i = z
              unfold F_103_80 f_103_123
              cases hbi : (B j).testBit i with
              | false =>
                rw [hbi, mb_f0] at n2
                simp only [b3, la_0, gd_tt, oA_arr, px_obj_s, Option.bind_some, Option.map_some, Option.bind_none, eq_self, true_or, or_true, px_av_0, px_av_1, px_av_2, px_av_10, px_av_11, bn, wi_1, wi_2, wl_1, wl_21, wl_22, wr_1, wr_21, wr_22, Sum.elim_inl, Sum.elim_inr, ↓reduceIte, Nat.reduceLT, Nat.reduceLeDiff, not_false_eq_true, not_true_eq_false, Nat.reduceEqDiff, Nat.reduceAdd, reduceCtorEq, and_true, true_and, and_false, false_and, false_or, or_false, n1, l3, n2, fa_or, nI_add, Bool.false_eq_true]
              | true =>
                rw [hbi, mb_t1] at n2
                simp only [b3, la_0, la_27, rm_0_27 hRω, gd_tt, oA_arr, px_obj_s, Option.bind_some, Option.map_some, Option.bind_none, eq_self, true_or, or_true, px_av_0, px_av_1, px_av_2, px_av_10, px_av_11, bn, wi_1, wi_2, wl_1, wl_21, wl_22, wr_1, wr_21, wr_22, Sum.elim_inl, Sum.elim_inr, ↓reduceIte, Nat.reduceLT, Nat.reduceLeDiff, not_false_eq_true, not_true_eq_false, Nat.reduceEqDiff, Nat.reduceAdd, reduceCtorEq, and_true, true_and, and_false, false_and, false_or, or_false, n1, l3, n2, n10, d1, d2, mω i hi, ba, ni_1s (show eb h (m i) < 31 by omega), fa_or, nI_add]
            · have b3 : nI j ≤ nI j := by rw [nI_leI (by omega) (by omega)]; omega
              rw [hmM] at y1
              dsimp only
              unfold F_103_80 f_103_144
              simp only [b3, la_0, gd_tt, oA_arr, px_obj_s, Option.bind_some, Option.map_some, Option.bind_none, eq_self, true_or, or_true, px_av_0, px_av_1, px_av_2, px_av_10, px_av_11, bn, wi_1, wi_2, wl_1, wl_21, wl_22, wr_1, wr_21, wr_22, Sum.elim_inl, Sum.elim_inr, ↓reduceIte, Nat.reduceLT, Nat.reduceLeDiff, not_false_eq_true, not_true_eq_false, Nat.reduceEqDiff, Nat.reduceAdd, reduceCtorEq, and_true, true_and, and_false, false_and, false_or, or_false, ni_1s (show h < 31 by omega), fa_or, nI_add, y1]
          refine ⟨(nI (h + 1), υ), ?_, υ, L2, rfl, y2, LO_tr (fun p => ?_) g2 y3, y4, fr_tr g4 (fr_tr w1 y5), fun i hi => ?_⟩
          · dsimp only
            unfold F_103_42 f_103_66
            simp only [la_0, la_1, la_27, rm_0_1 hRρ, rm_0_27 hRρ, k1, k2, e1ρ, b1, gd_tt, oA_arr, px_obj_s, Option.bind_some, Option.map_some, Option.bind_none, eq_self, true_or, or_true, px_av_0, px_av_1, px_av_2, px_av_10, px_av_11, bn, wi_1, wi_2, wl_1, wl_21, wl_22, wr_1, wr_21, wr_22, Sum.elim_inl, Sum.elim_inr, ↓reduceIte, Nat.reduceLT, Nat.reduceLeDiff, not_false_eq_true, not_true_eq_false, Nat.reduceEqDiff, Nat.reduceAdd, reduceCtorEq, and_true, true_and, and_false, false_and, false_or, or_false, l0, tst, c1, c2, hω, inner]
          · rw [exq_up]
            constructor
            · rintro ⟨z1, z2⟩
              by_cases q : p j = h
              · exact Or.inr ⟨z1, q⟩
              · exact Or.inl ⟨z1, by omega⟩
            · rintro (⟨z1, z2⟩ | ⟨z1, z2⟩)
              · exact ⟨z1, by omega⟩
              · exact ⟨z1, by omega⟩
          · rw [y6 i (by omega), mω i hi]; exact (hm i hi).symm
      · obtain ⟨ρ, L1, rfl, g1, g2, g3, g4, g5⟩ := hI
        obtain ⟨hRρ, -, e1ρ, -⟩ := mo_KM g4 hmo
        have b1 : nI n ≤ nI n := by rw [nI_leI (by omega) (by omega)]; omega
        refine ⟨ρ, ?_, L1, g1, LO_cg (fun p => ⟨fun z => ⟨z, z.1.1 j hjn⟩, fun z => z.1⟩) g2, g3, g4, g5⟩
        dsimp only
        unfold F_103_42
        simp only [la_0, la_1, rm_0_1 hRρ, k1, k2, e1ρ, b1, gd_tt, oA_arr, px_obj_s, Option.bind_some, Option.map_some, Option.bind_none, eq_self, true_or, or_true, px_av_0, px_av_1, px_av_2, px_av_10, px_av_11, bn, wi_1, wi_2, wl_1, wl_21, wl_22, wr_1, wr_21, wr_22, Sum.elim_inl, Sum.elim_inr, ↓reduceIte, Nat.reduceLT, Nat.reduceLeDiff, not_false_eq_true, not_true_eq_false, Nat.reduceEqDiff, Nat.reduceAdd, reduceCtorEq, and_true, true_and, and_false, false_and, false_or, or_false]
    obtain ⟨υ, q1, L', q2⟩ := lp
    refine ⟨υ, L', ?_, q2⟩
    rw [f_103_S]
    unfold F_103
    simp only [la_0, la_1, rm_0_1 hR, k1, k2, e1, a1, gd_tt, oA_arr, px_obj_s, Option.bind_some, Option.map_some, Option.bind_none, eq_self, true_or, or_true, px_av_0, px_av_1, px_av_2, px_av_10, px_av_11, bn, wi_1, wi_2, wl_1, wl_21, wl_22, wr_1, wr_21, wr_22, Sum.elim_inl, Sum.elim_inr, ↓reduceIte, Nat.reduceLT, Nat.reduceLeDiff, not_false_eq_true, not_true_eq_false, Nat.reduceEqDiff, Nat.reduceAdd, reduceCtorEq, and_true, true_and, and_false, false_and, false_or, or_false, q1]
/-- the least mark of a town -/
def lmk (n : Nat) (B : Nat → Nat) (v : Nat) : Prop := (∃ p, pm n p ∧ mkS B p n = v) ∧ ∀ p, pm n p → v ≤ mkS B p n
theorem LO_lmk {L : Option Nat} (h : LO (fun p => mkS B p n) (exq n 0 (fun i => i)) none L) : ∃ v, L = some v ∧ lmk n B v := by
  obtain ⟨v, e, -⟩ := h.1 (fun i => i) ⟨pm_id n, fun _ hi => by omega⟩
  refine ⟨v, e, ?_, fun p hp => ?_⟩
  · rcases h.2.2 v e with z | ⟨p, hp, ep⟩
    · cases z
    · exact ⟨p, hp.1, ep⟩
  · obtain ⟨u, hu, hle⟩ := h.1 p ⟨hp, fun _ hi => by omega⟩
    rw [e] at hu; cases hu; exact hle
theorem LO_lmkM (hw : wf n B) {L : Option Nat} (h : LO (fun p => mkM B p n) (exq n 0 (fun i => i)) none L) : ∃ v, L = some v ∧ lmk n B v := by
  have hn := hw.1
  obtain ⟨v, e, -⟩ := h.1 (fun i => i) ⟨pm_id n, fun _ hi => by omega⟩
  refine ⟨v, e, ?_, fun p hp => ?_⟩
  · rcases h.2.2 v e with z | ⟨p, hp, ep⟩
    · cases z
    · exact ⟨inv n p, inv_pm hn hp.1, by rw [← mk_inv hw hp.1]; exact ep⟩
  · obtain ⟨u, hu, hle⟩ := h.1 (inv n p) ⟨inv_pm hn hp, fun _ hi => by omega⟩
    rw [e] at hu
    cases hu
    have hle2 : v ≤ mkM B (inv n p) n := hle
    rw [mk_inv hw (inv_pm hn hp), mkS_congr (q := p) (fun i hi => ?_)] at hle2
    · exact hle2
    · have hi' := inv_pm hn hp
      obtain ⟨z1, z2⟩ := inv_1 hn hi' hi
      have := inv_1 hn hp (hp.1 i hi)
      have e1 : inv n p (p i) = i := inv_2 hn hp hi
      have e2 : inv n p (inv n (inv n p) i) = i := z2
      exact hi'.2 _ _ z1 (hp.1 i hi) (by rw [e2, e1])
theorem lmk_uniq {v v' : Nat} (h1 : lmk n B v) (h2 : lmk n B v') : v = v' := by
  obtain ⟨⟨p, hp, ep⟩, h3⟩ := h1
  obtain ⟨⟨q, hq, eq⟩, h4⟩ := h2
  have := h3 q hq
  have := h4 p hp
  omega
theorem e_markOf (hm : mo σ n B) (hn6 : n ≤ 6) : ∃ v υ, f_104 tT σ 0 = some (nI v, υ) ∧ lmk n B v ∧ fr KM σ υ := by
  have hw := hm.2.1
  obtain ⟨ω, hω⟩ : ∃ ω, px_wi σ 0 29 (-1) = ω := ⟨_, rfl⟩
  have w1 : fr KM σ ω := by rw [← hω]; exact fr_wi (fr_rf _ _) _ rfl
  obtain ⟨υ, L, q1, q2, q3, q4, q5, -⟩ := e_num hw hn6 n 0 (by omega) 24 (by omega) ω (fun i => i) none (mo_KM w1 hm) ⟨fun i hi => by omega, fun i j hi => by omega⟩ (fun i hi => by omega) (by rw [← hω]; exact wi_s _ _ _ _) (fun u hu => by cases hu)
  obtain ⟨v, rfl, hv⟩ := LO_lmkM hw q3
  refine ⟨v, υ, ?_, hv, fr_tr w1 q5⟩
  have z : oI (some v) = nI v := rfl
  rw [z] at q2
  have y1 : tk (fun i => i) 0 = 0 := rfl
  have y2 : mkM B (fun i => i) 0 = 0 := rfl
  rw [y1, y2] at q1
  simp only [f_104, la_0, gd_tt, oA_arr, px_obj_s, Option.bind_some, Option.map_some, Option.bind_none, eq_self, true_or, or_true, px_av_0, px_av_1, px_av_2, px_av_10, px_av_11, bn, wi_1, wi_2, wl_1, wl_21, wl_22, wr_1, wr_21, wr_22, Sum.elim_inl, Sum.elim_inr, ↓reduceIte, Nat.reduceLT, Nat.reduceLeDiff, not_false_eq_true, not_true_eq_false, Nat.reduceEqDiff, Nat.reduceAdd, reduceCtorEq, and_true, true_and, and_false, false_and, false_or, or_false, hω, q1, q2]
theorem SM_KM : ∀ l j, SM l j = false → KM l j = false := fun l j h => by
  cases hq : KM l j with
  | false => rfl
  | true =>
    simp only [KM, Bool.or_eq_true, Bool.and_eq_true, beq_iff_eq] at hq
    rcases hq with rfl | ⟨rfl, rfl⟩ <;> simp [SM] at h
theorem a_mark (hc : cl σ n B) : agI σ (f_12039 tT σ 100) (fun τ => f_105 tT τ 0) n B := by
  obtain ⟨hR, ht⟩ := hc
  have hw := ht.2.2.2.1
  have hn := hw.1
  have e1 := ht.2.2.2.2.1
  have k1 : vp_in (nI 1) 3216 := (vp_in_eq (by omega)).mpr (by omega)
  have k2 : (nI 1).toNatClampNeg = 1 := nI_clamp (by omega)
  by_cases h6 : n ≤ 6
  · have a1 : nI n ≤ nI 6 := by rw [nI_leI (by omega) (by omega)]; exact h6
    obtain ⟨ω, hω⟩ : ∃ ω, px_wi (px_wr σ 190 1 (some 111)) 190 3 (-1) = ω := ⟨_, rfl⟩
    have w1 : fr (on 190) σ ω := by rw [← hω]; exact fr_wi (fr_wr (fr_rf _ _) _ rfl rfl) _ rfl
    have hRω := cR_fr w1 hR
    have h1ω : ω.2.2 190 1 = some 111 := by rw [← hω, wi_2, wr_22]; exact px_up_s _ _ _ _
    obtain ⟨υ, L, q1, q2, q3, q4, q5, -⟩ := c_num (t := 111) hw h6 n 0 (by omega) 24 (by omega) ω (fun i => i) none hRω h1ω (by decide) (ct_fr w1 (fun _ => rfl) (fun _ => rfl) ht) ⟨fun i hi => by omega, fun i j hi => by omega⟩ (fun i hi => by omega) (by rw [← hω]; exact wi_s _ _ _ _) (fun u hu => by cases hu)
    obtain ⟨v, rfl, hv⟩ := LO_lmk q3
    have z : oI (some v) = nI v := rfl
    rw [z] at q2
    have y1 : tk (fun i => i) 0 = 0 := rfl
    have y2 : mkS B (fun i => i) 0 = 0 := rfl
    rw [y1, y2] at q1
    refine ⟨nI v, υ, ?_, fr_tr (fr_mono w1 (fun l j h => ?_)) (fr_mono q5 (fun l j h => ?_)), fun τ hm => ?_⟩
    · simp only [f_12039, f_6002, la_100, la_110, la_111, la_190, rc_100_0 hR, rc_110_0 hR, rc_100_8 hR, gd_tt, oA_arr, px_obj_s, Option.bind_some, Option.map_some, Option.bind_none, eq_self, true_or, or_true, px_av_0, px_av_1, px_av_2, px_av_10, px_av_11, bn, wi_1, wi_2, wl_1, wl_21, wl_22, wr_1, wr_21, wr_22, Sum.elim_inl, Sum.elim_inr, ↓reduceIte, Nat.reduceLT, Nat.reduceLeDiff, not_false_eq_true, not_true_eq_false, Nat.reduceEqDiff, Nat.reduceAdd, reduceCtorEq, and_true, true_and, and_false, false_and, false_or, or_false, e1, a1, hω, q1, q2]
    · simp only [SC, Bool.and_eq_false_iff, decide_eq_false_iff_not] at h
      simp only [on, beq_eq_false_iff_ne]; omega
    · simp only [SC, Bool.and_eq_false_iff, decide_eq_false_iff_not] at h
      cases hq : KS l j with
      | false => rfl
      | true => simp only [KS, Bool.or_eq_true, Bool.and_eq_true, beq_iff_eq] at hq; omega
    · obtain ⟨v', χ, p1, p2, p3⟩ := e_markOf (mo_thr hm) h6
      have := lmk_uniq hv p2
      subst this
      refine ⟨χ, ?_, fr_tr (fr_thr (fr_rf _ _)) (fr_mono p3 SM_KM)⟩
      show f_105 tT τ 0 = _
      obtain ⟨hRm, -, e2, -⟩ := mo_thr hm
      unfold f_105
      generalize px_wi τ 0 0 (nI 0) = ψ at hRm e2 p1 ⊢
      simp only [la_0, la_1, rm_0_1 hRm, k1, k2, e2, a1, gd_tt, oA_arr, px_obj_s, Option.bind_some, Option.map_some, Option.bind_none, eq_self, true_or, or_true, px_av_0, px_av_1, px_av_2, px_av_10, px_av_11, bn, wi_1, wi_2, wl_1, wl_21, wl_22, wr_1, wr_21, wr_22, Sum.elim_inl, Sum.elim_inr, ↓reduceIte, Nat.reduceLT, Nat.reduceLeDiff, not_false_eq_true, not_true_eq_false, Nat.reduceEqDiff, Nat.reduceAdd, reduceCtorEq, and_true, true_and, and_false, false_and, false_or, or_false, p1]
  · have a1 : ¬ nI n ≤ nI 6 := by rw [nI_leI (by omega) (by omega)]; exact h6
    refine ⟨-4, σ, ?_, fr_rf _ _, fun τ hm => ⟨_, ?_, fr_thr (fr_rf _ _)⟩⟩
    · simp only [f_12039, la_100, la_110, la_111, rc_100_0 hR, rc_110_0 hR, gd_tt, oA_arr, px_obj_s, Option.bind_some, Option.map_some, Option.bind_none, eq_self, true_or, or_true, px_av_0, px_av_1, px_av_2, px_av_10, px_av_11, bn, wi_1, wi_2, wl_1, wl_21, wl_22, wr_1, wr_21, wr_22, Sum.elim_inl, Sum.elim_inr, ↓reduceIte, Nat.reduceLT, Nat.reduceLeDiff, not_false_eq_true, not_true_eq_false, Nat.reduceEqDiff, Nat.reduceAdd, reduceCtorEq, and_true, true_and, and_false, false_and, false_or, or_false, e1, a1]
    · show f_105 tT τ 0 = _
      obtain ⟨hRm, -, e2, -⟩ := mo_thr hm
      unfold f_105
      generalize px_wi τ 0 0 (nI 0) = ψ at hRm e2 ⊢
      simp only [la_0, la_1, rm_0_1 hRm, k1, k2, e2, a1, gd_tt, oA_arr, px_obj_s, Option.bind_some, Option.map_some, Option.bind_none, eq_self, true_or, or_true, px_av_0, px_av_1, px_av_2, px_av_10, px_av_11, bn, wi_1, wi_2, wl_1, wl_21, wl_22, wr_1, wr_21, wr_22, Sum.elim_inl, Sum.elim_inr, ↓reduceIte, Nat.reduceLT, Nat.reduceLeDiff, not_false_eq_true, not_true_eq_false, Nat.reduceEqDiff, Nat.reduceAdd, reduceCtorEq, and_true, true_and, and_false, false_and, false_or, or_false]
end
