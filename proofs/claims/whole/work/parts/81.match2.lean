/-! selves, alike: the model -/
section
variable {σ τ : px_M} {t n : Nat} {B D : Nat → Nat}
def M28 (l j : Nat) : Bool := l == 27 || l == 28 || (l == 0 && j == 30)
theorem mo_27 {υ : px_M} (h : fr (on 27) σ υ) (hm : mo σ n B) : mo υ n B := mo_on (by decide) h hm
theorem e_matches (hw : wf n B) (hwD : wf n D) : ∀ k h, h + k = n → ∀ d, k + 1 ≤ d → ∀ (σ : px_M) (m : Nat → Nat), mo σ n B → (∀ x, x < 11 → σ.1 28 x = nI (D x)) → bgn n h m → (∀ i, i < h → σ.1 27 i = nI (m i)) → ∃ υ, f_106 tT d σ 0 (nI h) (nI (tk m h)) = some (nI (Nc n B D k h m), υ) ∧ fr (on 27) σ υ ∧ ∀ i, i < h → υ.1 27 i = σ.1 27 i := by
  have k1 : vp_in (nI 1) 3216 := (vp_in_eq (by omega)).mpr (by omega)
  have k2 : (nI 1).toNatClampNeg = 1 := nI_clamp (by omega)
  have hn := hw.1
  intro k
  induction k with
  | zero =>
    intro h hh d hd σ m hm hD hb hr
    have hhn : h = n := by omega
    subst hhn
    obtain ⟨d, rfl⟩ : ∃ d', d = d' + 1 := ⟨d - 1, by omega⟩
    obtain ⟨hR, -, e1, -⟩ := id hm
    refine ⟨σ, ?_, fr_rf _ _, fun _ _ => rfl⟩
    rw [f_106_S]
    unfold F_106
    simp only [la_0, la_1, rm_0_1 hR, k1, k2, e1, gd_tt, oA_arr, px_obj_s, Option.bind_some, Option.map_some, Option.bind_none, eq_self, true_or, or_true, px_av_0, px_av_1, px_av_2, px_av_10, px_av_11, bn, wi_1, wi_2, wl_1, wl_21, wl_22, wr_1, wr_21, wr_22, Sum.elim_inl, Sum.elim_inr, ↓reduceIte, Nat.reduceLT, Nat.reduceLeDiff, not_false_eq_true, not_true_eq_false, Nat.reduceEqDiff, Nat.reduceAdd, reduceCtorEq, and_true, true_and, and_false, false_and, false_or, or_false]
    rfl
  | succ k ih =>
    intro h hh d hd σ m hm hD hb hr
    obtain ⟨d, rfl⟩ : ∃ d', d = d' + 1 := ⟨d - 1, by omega⟩
    obtain ⟨hR, -, e1, -⟩ := id hm
    have hhn : h < n := by omega
    have a1 : ¬ nI h = nI n := by rw [nI_eq (by omega) (by omega)]; omega
    have htl := tk_lt hb.1
    have hp := pw_le hn
    have c1 : vp_in (nI h) 11 := (vp_in_eq (by omega)).mpr (by omega)
    have c2 : (nI h).toNatClampNeg = h := nI_clamp (by omega)
    have hNc : Nc n B D (k + 1) h m = sm (fun x => if (tk m h).testBit x = false ∧ ∀ i, i < h → (B h).testBit i = (D x).testBit (m i) then Nc n B D k (h + 1) (upm m h x) else 0) n := rfl
    have lp : ∃ b, f_106_17 tT (f_106 tT d) 0 (nI h) (nI (tk m h)) (nI 0) (nI 0) σ = some b ∧ ∃ υ, b = (nI (Nc n B D (k + 1) h m), υ) ∧ fr (on 27) σ υ ∧ ∀ i, i < h → υ.1 27 i = σ.1 27 i := by
      rw [hNc]
      unfold f_106_17
      refine lp_for (F := fun s : Int32 × Int32 × px_M => F_106_17 tT (f_106 tT d) 0 (nI h) (nI (tk m h)) s.1 s.2.1 s.2.2) (fun x q => ∃ ρ, q = (nI (sm (fun x => if (tk m h).testBit x = false ∧ ∀ i, i < h → (B h).testBit i = (D x).testBit (m i) then Nc n B D k (h + 1) (upm m h x) else 0) x), nI x, ρ) ∧ fr (on 27) σ ρ ∧ ∀ i, i < h → ρ.1 27 i = σ.1 27 i) _ n (fun x q hx hI => ?_) (fun q hI => ?_) 0 (nI 0, nI 0, σ) (by omega) ⟨σ, rfl, fr_rf _ _, fun _ _ => rfl⟩
      · obtain ⟨ρ, rfl, g1, g2⟩ := hI
        have hmρ := mo_27 g1 hm
        obtain ⟨hRρ, -, e1ρ, -⟩ := id hmρ
        have b1 : ¬ nI n ≤ nI x := by rw [nI_leI (by omega) (by omega)]; omega
        have l0 : (nI (tk m h)).toInt64 = lN (tk m h) := nI_l (by omega)
        have tst := e_isIn ρ (s := tk m h) (j := x) (by omega) (by omega)
        have hDx : ρ.1 28 x = nI (D x) := by rw [g1.1 28 x rfl]; exact hD x (by omega)
        have hDl := wf_2048 hwD x
        have mρ : ∀ i, i < h → ρ.1 27 i = nI (m i) := fun i hi => by rw [g2 i hi]; exact hr i hi
        have hS : sm (fun x => if (tk m h).testBit x = false ∧ ∀ i, i < h → (B h).testBit i = (D x).testBit (m i) then Nc n B D k (h + 1) (upm m h x) else 0) (x + 1) = sm (fun x => if (tk m h).testBit x = false ∧ ∀ i, i < h → (B h).testBit i = (D x).testBit (m i) then Nc n B D k (h + 1) (upm m h x) else 0) x + (if (tk m h).testBit x = false ∧ ∀ i, i < h → (B h).testBit i = (D x).testBit (m i) then Nc n B D k (h + 1) (upm m h x) else 0) := rfl
        rw [hS]
        generalize sm (fun x => if (tk m h).testBit x = false ∧ ∀ i, i < h → (B h).testBit i = (D x).testBit (m i) then Nc n B D k (h + 1) (upm m h x) else 0) x = Z
        -- the end of a try
        have fin0 : f_106_104 tT (f_106 tT d) ρ 0 (nI h) (nI (tk m h)) (nI Z) (nI x) (nI 0) = some (.inl (nI Z, nI (x + 1), ρ)) := by
          simp only [f_106_104, f_106_136, gd_tt, oA_arr, px_obj_s, Option.bind_some, Option.map_some, Option.bind_none, eq_self, true_or, or_true, px_av_0, px_av_1, px_av_2, px_av_10, px_av_11, bn, wi_1, wi_2, wl_1, wl_21, wl_22, wr_1, wr_21, wr_22, Sum.elim_inl, Sum.elim_inr, ↓reduceIte, Nat.reduceLT, Nat.reduceLeDiff, not_false_eq_true, not_true_eq_false, Nat.reduceEqDiff, Nat.reduceAdd, reduceCtorEq, and_true, true_and, and_false, false_and, false_or, or_false, nI_add]
        cases hf : (tk m h).testBit x with
        | true =>
          rw [hf, mb_t1] at tst
          rw [if_neg (by simp)]
          refine ⟨(nI Z, nI (x + 1), ρ), ?_, ρ, rfl, g1, g2⟩
          have h48 : f_106_48 tT (f_106 tT d) ρ 0 (nI h) (nI (tk m h)) (nI Z) (nI x) (nI 0) (nI 0) = some (.inl (nI Z, nI (x + 1), ρ)) := by
            unfold f_106_48
            refine lp_end ?_
            dsimp only
            unfold F_106_48
            by_cases q : nI h ≤ nI 0
            · simp only [q, gd_tt, oA_arr, px_obj_s, Option.bind_some, Option.map_some, Option.bind_none, eq_self, true_or, or_true, px_av_0, px_av_1, px_av_2, px_av_10, px_av_11, bn, wi_1, wi_2, wl_1, wl_21, wl_22, wr_1, wr_21, wr_22, Sum.elim_inl, Sum.elim_inr, ↓reduceIte, Nat.reduceLT, Nat.reduceLeDiff, not_false_eq_true, not_true_eq_false, Nat.reduceEqDiff, Nat.reduceAdd, reduceCtorEq, and_true, true_and, and_false, false_and, false_or, or_false, fin0]
            · simp only [q, gd_tt, oA_arr, px_obj_s, Option.bind_some, Option.map_some, Option.bind_none, eq_self, true_or, or_true, px_av_0, px_av_1, px_av_2, px_av_10, px_av_11, bn, wi_1, wi_2, wl_1, wl_21, wl_22, wr_1, wr_21, wr_22, Sum.elim_inl, Sum.elim_inr, ↓reduceIte, Nat.reduceLT, Nat.reduceLeDiff, not_false_eq_true, not_true_eq_false, Nat.reduceEqDiff, Nat.reduceAdd, reduceCtorEq, and_true, true_and, and_false, false_and, false_or, or_false, fin0]
          dsimp only
          unfold F_106_17 f_106_42
          simp only [la_0, la_1, rm_0_1 hRρ, k1, k2, e1ρ, b1, gd_tt, oA_arr, px_obj_s, Option.bind_some, Option.map_some, Option.bind_none, eq_self, true_or, or_true, px_av_0, px_av_1, px_av_2, px_av_10, px_av_11, bn, wi_1, wi_2, wl_1, wl_21, wl_22, wr_1, wr_21, wr_22, Sum.elim_inl, Sum.elim_inr, ↓reduceIte, Nat.reduceLT, Nat.reduceLeDiff, not_false_eq_true, not_true_eq_false, Nat.reduceEqDiff, Nat.reduceAdd, reduceCtorEq, and_true, true_and, and_false, false_and, false_or, or_false, l0, tst, n10, h48]
        | false =>
          rw [hf, mb_f0] at tst
          obtain ⟨ω, hω⟩ : ∃ ω, px_wi ρ 27 h (nI x) = ω := ⟨_, rfl⟩
          have w1 : fr (on 27) ρ ω := by rw [← hω]; exact fr_wi (fr_rf _ _) _ rfl
          have mω : ∀ i, i < h + 1 → ω.1 27 i = nI (upm m h x i) := fun i hi => by
            rw [← hω]
            show px_up ρ.1 27 h _ 27 i = _
            rw [up_s]
            by_cases q : i = h
            · subst q; rw [if_pos rfl, upm_s]
            · rw [if_neg q, upm_n q]; exact mρ i (by omega)
          obtain ⟨υ, y1, y2, y3⟩ := ih (h + 1) (by omega) d (by omega) ω (upm m h x) (mo_27 w1 hmρ) (fun z hz => by rw [w1.1 28 z rfl, g1.1 28 z rfl]; exact hD z hz) (bgn_up hb hx hf) mω
          rw [tk_up] at y1
          have fin1 : f_106_104 tT (f_106 tT d) ρ 0 (nI h) (nI (tk m h)) (nI Z) (nI x) (nI 1) = some (.inl (nI (Z + Nc n B D k (h + 1) (upm m h x)), nI (x + 1), υ)) := by
            simp only [f_106_104, f_106_136, la_0, la_27, rm_0_27 hRρ, gd_tt, oA_arr, px_obj_s, Option.bind_some, Option.map_some, Option.bind_none, eq_self, true_or, or_true, px_av_0, px_av_1, px_av_2, px_av_10, px_av_11, bn, wi_1, wi_2, wl_1, wl_21, wl_22, wr_1, wr_21, wr_22, Sum.elim_inl, Sum.elim_inr, ↓reduceIte, Nat.reduceLT, Nat.reduceLeDiff, not_false_eq_true, not_true_eq_false, Nat.reduceEqDiff, Nat.reduceAdd, reduceCtorEq, and_true, true_and, and_false, false_and, false_or, or_false, n10, c1, c2, hω, ni_1s (show x < 31 by omega), fa_or, nI_add, y1]
          have look : ∃ b, f_106_48 tT (f_106 tT d) ρ 0 (nI h) (nI (tk m h)) (nI Z) (nI x) (nI 1) (nI 0) = some b ∧ ∃ χ, b = .inl (nI (Z + (if (∀ i, i < h → (B h).testBit i = (D x).testBit (m i)) then Nc n B D k (h + 1) (upm m h x) else 0)), nI (x + 1), χ) ∧ fr (on 27) σ χ ∧ ∀ i, i < h → χ.1 27 i = σ.1 27 i := by
            unfold f_106_48
            refine lp_rel (F := fun s : Int32 × Int32 => F_106_48 tT (f_106 tT d) ρ 0 (nI h) (nI (tk m h)) (nI Z) (nI x) s.1 s.2) (fun j s => (s = (nI 1, nI j) ∧ j ≤ h ∧ ∀ i, i < j → (B h).testBit i = (D x).testBit (m i)) ∨ (s = (nI 0, nI j) ∧ ¬ ∀ i, i < h → (B h).testBit i = (D x).testBit (m i))) _ (h + 1) (fun j s hj hI => ?_) 0 (nI 1, nI 0) (by omega) (Or.inl ⟨rfl, by omega, fun i hi => by omega⟩)
            rcases hI with ⟨rfl, hjh, hall⟩ | ⟨rfl, hno⟩
            · by_cases hje : j = h
              · subst hje
                refine Or.inr ⟨_, ?_, υ, rfl, fr_tr g1 (fr_tr w1 y2), fun i hi => by rw [y3 i (by omega), mω i (by omega), upm_n (by omega), hr i hi]⟩
                have q : nI j ≤ nI j := by rw [nI_leI (by omega) (by omega)]; omega
                rw [if_pos hall]
                dsimp only
                unfold F_106_48
                simp only [q, gd_tt, oA_arr, px_obj_s, Option.bind_some, Option.map_some, Option.bind_none, eq_self, true_or, or_true, px_av_0, px_av_1, px_av_2, px_av_10, px_av_11, bn, wi_1, wi_2, wl_1, wl_21, wl_22, wr_1, wr_21, wr_22, Sum.elim_inl, Sum.elim_inr, ↓reduceIte, Nat.reduceLT, Nat.reduceLeDiff, not_false_eq_true, not_true_eq_false, Nat.reduceEqDiff, Nat.reduceAdd, reduceCtorEq, and_true, true_and, and_false, false_and, false_or, or_false, fin1]
              · have q : ¬ nI h ≤ nI j := by rw [nI_leI (by omega) (by omega)]; omega
                have hBh := wf_2048 hw h
                have n1 := e_near hmρ (show h < 11 by omega)
                have n2 := e_isIn ρ (s := B h) (j := j) (by omega) (by omega)
                have l3 : (nI (B h)).toInt64 = lN (B h) := nI_l (by omega)
                have l4 : (nI (D x)).toInt64 = lN (D x) := nI_l (by omega)
                have hmj := hb.1 j (by omega)
                have n3 := e_isIn ρ (s := D x) (j := m j) (by omega) (by omega)
                have d1 : vp_in (nI x) 11 := (vp_in_eq (by omega)).mpr (by omega)
                have d2 : (nI x).toNatClampNeg = x := nI_clamp (by omega)
                have d3 : vp_in (nI j) 11 := (vp_in_eq (by omega)).mpr (by omega)
                have d4 : (nI j).toNatClampNeg = j := nI_clamp (by omega)
                by_cases e : (B h).testBit j = (D x).testBit (m j)
                · rw [e] at n2
                  refine Or.inl ⟨(nI 1, nI (j + 1)), ?_, by omega, Or.inl ⟨rfl, by omega, fun i hi => ?_⟩⟩
                  · dsimp only
                    unfold F_106_48 f_106_91
                    simp only [q, la_0, la_27, la_28, rm_0_27 hRρ, rm_0_28 hRρ, gd_tt, oA_arr, px_obj_s, Option.bind_some, Option.map_some, Option.bind_none, eq_self, true_or, or_true, px_av_0, px_av_1, px_av_2, px_av_10, px_av_11, bn, wi_1, wi_2, wl_1, wl_21, wl_22, wr_1, wr_21, wr_22, Sum.elim_inl, Sum.elim_inr, ↓reduceIte, Nat.reduceLT, Nat.reduceLeDiff, not_false_eq_true, not_true_eq_false, Nat.reduceEqDiff, Nat.reduceAdd, reduceCtorEq, and_true, true_and, and_false, false_and, false_or, or_false, n10, n1, l3, n2, d1, d2, d3, d4, hDx, mρ j (show j < h by omega), l4, n3, nI_add]
                  · by_cases z : i = j
                    · subst z; exact e
                    · exact hall i (by omega)
                · have e2 : ¬ mb ((B h).testBit j) = mb ((D x).testBit (m j)) := fun q => e (by
                    cases w1 : (B h).testBit j <;> cases w2 : (D x).testBit (m j) <;> rw [w1, w2] at q <;> first | rfl | exact absurd q (by decide))
                  refine Or.inl ⟨(nI 0, nI (j + 1)), ?_, by omega, Or.inr ⟨rfl, fun z => e (z j (by omega))⟩⟩
                  dsimp only
                  unfold F_106_48 f_106_95
                  simp only [q, la_0, la_27, la_28, rm_0_27 hRρ, rm_0_28 hRρ, gd_tt, oA_arr, px_obj_s, Option.bind_some, Option.map_some, Option.bind_none, eq_self, true_or, or_true, px_av_0, px_av_1, px_av_2, px_av_10, px_av_11, bn, wi_1, wi_2, wl_1, wl_21, wl_22, wr_1, wr_21, wr_22, Sum.elim_inl, Sum.elim_inr, ↓reduceIte, Nat.reduceLT, Nat.reduceLeDiff, not_false_eq_true, not_true_eq_false, Nat.reduceEqDiff, Nat.reduceAdd, reduceCtorEq, and_true, true_and, and_false, false_and, false_or, or_false, n10, n1, l3, n2, d1, d2, d3, d4, hDx, mρ j (show j < h by omega), l4, n3, e2, nI_add]
            · refine Or.inr ⟨_, ?_, ρ, rfl, g1, g2⟩
              rw [if_neg hno, Nat.add_zero]
              dsimp only
              unfold F_106_48
              by_cases q : nI h ≤ nI j
              · simp only [q, gd_tt, oA_arr, px_obj_s, Option.bind_some, Option.map_some, Option.bind_none, eq_self, true_or, or_true, px_av_0, px_av_1, px_av_2, px_av_10, px_av_11, bn, wi_1, wi_2, wl_1, wl_21, wl_22, wr_1, wr_21, wr_22, Sum.elim_inl, Sum.elim_inr, ↓reduceIte, Nat.reduceLT, Nat.reduceLeDiff, not_false_eq_true, not_true_eq_false, Nat.reduceEqDiff, Nat.reduceAdd, reduceCtorEq, and_true, true_and, and_false, false_and, false_or, or_false, fin0]
              · simp only [q, gd_tt, oA_arr, px_obj_s, Option.bind_some, Option.map_some, Option.bind_none, eq_self, true_or, or_true, px_av_0, px_av_1, px_av_2, px_av_10, px_av_11, bn, wi_1, wi_2, wl_1, wl_21, wl_22, wr_1, wr_21, wr_22, Sum.elim_inl, Sum.elim_inr, ↓reduceIte, Nat.reduceLT, Nat.reduceLeDiff, not_false_eq_true, not_true_eq_false, Nat.reduceEqDiff, Nat.reduceAdd, reduceCtorEq, and_true, true_and, and_false, false_and, false_or, or_false, fin0]
          obtain ⟨b, u1, χ, rfl, u2, u3⟩ := look
          have hcond : (if (false = false) ∧ (∀ i, i < h → (B h).testBit i = (D x).testBit (m i)) then Nc n B D k (h + 1) (upm m h x) else 0) = (if (∀ i, i < h → (B h).testBit i = (D x).testBit (m i)) then Nc n B D k (h + 1) (upm m h x) else 0) := by
            simp only [true_and]
          rw [hcond]
          refine ⟨_, ?_, χ, rfl, u2, u3⟩
          dsimp only
          unfold F_106_17 f_106_38
          simp only [la_0, la_1, rm_0_1 hRρ, k1, k2, e1ρ, b1, gd_tt, oA_arr, px_obj_s, Option.bind_some, Option.map_some, Option.bind_none, eq_self, true_or, or_true, px_av_0, px_av_1, px_av_2, px_av_10, px_av_11, bn, wi_1, wi_2, wl_1, wl_21, wl_22, wr_1, wr_21, wr_22, Sum.elim_inl, Sum.elim_inr, ↓reduceIte, Nat.reduceLT, Nat.reduceLeDiff, not_false_eq_true, not_true_eq_false, Nat.reduceEqDiff, Nat.reduceAdd, reduceCtorEq, and_true, true_and, and_false, false_and, false_or, or_false, l0, tst, u1]
      · obtain ⟨ρ, rfl, g1, g2⟩ := hI
        obtain ⟨hRρ, -, e1ρ, -⟩ := mo_27 g1 hm
        have b1 : nI n ≤ nI n := by rw [nI_leI (by omega) (by omega)]; omega
        refine ⟨_, ?_, ρ, rfl, g1, g2⟩
        dsimp only
        unfold F_106_17
        simp only [la_0, la_1, rm_0_1 hRρ, k1, k2, e1ρ, b1, gd_tt, oA_arr, px_obj_s, Option.bind_some, Option.map_some, Option.bind_none, eq_self, true_or, or_true, px_av_0, px_av_1, px_av_2, px_av_10, px_av_11, bn, wi_1, wi_2, wl_1, wl_21, wl_22, wr_1, wr_21, wr_22, Sum.elim_inl, Sum.elim_inr, ↓reduceIte, Nat.reduceLT, Nat.reduceLeDiff, not_false_eq_true, not_true_eq_false, Nat.reduceEqDiff, Nat.reduceAdd, reduceCtorEq, and_true, true_and, and_false, false_and, false_or, or_false]
    obtain ⟨b, q1, υ, rfl, q2⟩ := lp
    refine ⟨υ, ?_, q2⟩
    rw [f_106_S]
    unfold F_106 f_106_14
    simp only [la_0, la_1, rm_0_1 hR, k1, k2, e1, a1, gd_tt, oA_arr, px_obj_s, Option.bind_some, Option.map_some, Option.bind_none, eq_self, true_or, or_true, px_av_0, px_av_1, px_av_2, px_av_10, px_av_11, bn, wi_1, wi_2, wl_1, wl_21, wl_22, wr_1, wr_21, wr_22, Sum.elim_inl, Sum.elim_inr, ↓reduceIte, Nat.reduceLT, Nat.reduceLeDiff, not_false_eq_true, not_true_eq_false, Nat.reduceEqDiff, Nat.reduceAdd, reduceCtorEq, and_true, true_and, and_false, false_and, false_or, or_false, q1]
/-- the other town laid beside -/
theorem e_laysOther (hR : mR σ.2.2) {off : Nat} (ho : off ≤ 2144) (h1 : σ.1 1 (off + 1) = nI n) (h2 : ∀ h, h < 11 → σ.1 1 (off + 2 + h) = nI (D h)) : ∃ υ, f_107 tT σ 0 (nI off) = some υ ∧ fr M28 σ υ ∧ υ.1 0 30 = nI n ∧ ∀ x, x < 11 → υ.1 28 x = nI (D x) := by
  have lp : ∃ υ, f_107_14 tT 0 (nI off) (nI 0) (px_wi σ 0 30 (nI n)) = some υ ∧ fr M28 σ υ ∧ υ.1 0 30 = nI n ∧ ∀ x, x < 11 → υ.1 28 x = nI (D x) := by
    unfold f_107_14
    refine lp_for (F := fun s : Int32 × px_M => F_107_14 tT 0 (nI off) s.1 s.2) (fun j q => ∃ ρ, q = (nI j, ρ) ∧ fr M28 σ ρ ∧ ρ.1 0 30 = nI n ∧ ∀ x, x < j → ρ.1 28 x = nI (D x)) _ 11 (fun j q hj hI => ?_) (fun q hI => ?_) 0 (nI 0, px_wi σ 0 30 (nI n)) (by omega) ⟨_, rfl, fr_wi (fr_rf _ _) _ rfl, wi_s _ _ _ _, fun x hx => by omega⟩
    · obtain ⟨ρ, rfl, g1, g2, g3⟩ := hI
      have hRρ := mR_fr g1 hR
      have a1 : ¬ nI 11 ≤ nI j := by rw [nI_leI (by omega) (by omega)]; omega
      have c1 : vp_in (nI (off + 2 + j)) 3216 := (vp_in_eq (by omega)).mpr (by omega)
      have c2 : (nI (off + 2 + j)).toNatClampNeg = off + 2 + j := nI_clamp (by omega)
      have c3 : vp_in (nI j) 11 := (vp_in_eq (by omega)).mpr (by omega)
      have c4 : (nI j).toNatClampNeg = j := nI_clamp (by omega)
      have v : ρ.1 1 (off + 2 + j) = nI (D j) := by rw [g1.1 1 _ rfl]; exact h2 j hj
      refine ⟨(nI (j + 1), px_wi ρ 28 j (nI (D j))), ?_, _, rfl, fr_wi g1 _ rfl, by rw [wi_n (by decide)]; exact g2, fun x hx => ?_⟩
      · dsimp only
        unfold F_107_14
        simp only [a1, la_0, la_1, la_28, rm_0_1 hRρ, rm_0_28 hRρ, gd_tt, oA_arr, px_obj_s, Option.bind_some, Option.map_some, Option.bind_none, eq_self, true_or, or_true, px_av_0, px_av_1, px_av_2, px_av_10, px_av_11, bn, wi_1, wi_2, wl_1, wl_21, wl_22, wr_1, wr_21, wr_22, Sum.elim_inl, Sum.elim_inr, ↓reduceIte, Nat.reduceLT, Nat.reduceLeDiff, not_false_eq_true, not_true_eq_false, Nat.reduceEqDiff, Nat.reduceAdd, reduceCtorEq, and_true, true_and, and_false, false_and, false_or, or_false, nI_add, c1, c2, c3, c4, v]
      · show px_up ρ.1 28 j _ 28 x = _
        rw [up_s]
        by_cases q : x = j
        · subst q; rw [if_pos rfl]
        · rw [if_neg q]; exact g3 x (by omega)
    · obtain ⟨ρ, rfl, g1, g2, g3⟩ := hI
      refine ⟨ρ, ?_, g1, g2, g3⟩
      dsimp only
      unfold F_107_14
      rw [if_pos (by decide)]
  obtain ⟨υ, q1, q2⟩ := lp
  refine ⟨υ, ?_, q2⟩
  have c1 : vp_in (nI (off + 1)) 3216 := (vp_in_eq (by omega)).mpr (by omega)
  have c2 : (nI (off + 1)).toNatClampNeg = off + 1 := nI_clamp (by omega)
  simp only [f_107, la_0, la_1, rm_0_1 hR, gd_tt, oA_arr, px_obj_s, Option.bind_some, Option.map_some, Option.bind_none, eq_self, true_or, or_true, px_av_0, px_av_1, px_av_2, px_av_10, px_av_11, bn, wi_1, wi_2, wl_1, wl_21, wl_22, wr_1, wr_21, wr_22, Sum.elim_inl, Sum.elim_inr, ↓reduceIte, Nat.reduceLT, Nat.reduceLeDiff, not_false_eq_true, not_true_eq_false, Nat.reduceEqDiff, Nat.reduceAdd, reduceCtorEq, and_true, true_and, and_false, false_and, false_or, or_false, nI_add, c1, c2, h1, q1]
theorem SM_28 : ∀ l j, SM l j = false → M28 l j = false := fun l j h => by
  cases hq : M28 l j with
  | false => rfl
  | true =>
    simp only [M28, Bool.or_eq_true, Bool.and_eq_true, beq_iff_eq] at hq
    rcases hq with (rfl | rfl) | ⟨rfl, rfl⟩ <;> simp [SM] at h
theorem SM_27 : ∀ l j, SM l j = false → on 27 l j = false := fun l j h => by
  simp only [on, beq_eq_false_iff_ne]
  rintro rfl
  simp [SM] at h
theorem SC_191 : ∀ l j, SC l j = false → on 191 l j = false := fun l j h => by
  simp only [SC, Bool.and_eq_false_iff, decide_eq_false_iff_not] at h
  simp only [on, beq_eq_false_iff_ne]; omega
theorem c_kin (hR : cR σ.2.2) {u m : Nat} (hne : u ≠ 191 ∧ u + 1 ≠ 191 ∧ u ≠ 190 ∧ u + 1 ≠ 190) (ht : ct σ 111 n B) (hu : ct σ u m D) : ∃ υ, px_wr (px_wr σ 190 1 (some 111)) 190 2 (some u) = υ ∧ fr SC σ υ ∧ cR υ.2.2 ∧ υ.2.2 190 1 = some 111 ∧ υ.2.2 190 2 = some u ∧ ct υ 111 n B ∧ ct υ u m D := by
  obtain ⟨ω, hω⟩ : ∃ ω, px_wr (px_wr σ 190 1 (some 111)) 190 2 (some u) = ω := ⟨_, rfl⟩
  have w1 : fr (on 190) σ ω := by rw [← hω]; exact fr_wr (fr_wr (fr_rf _ _) _ rfl rfl) _ rfl rfl
  refine ⟨ω, hω, fr_mono w1 (fun l j h => ?_), cR_fr w1 hR, ?_, ?_, ct_fr w1 (fun _ => rfl) (fun _ => rfl) ht, ct_fr w1 (fun j => by simp [on, hne.2.2.1]) (fun j => by simp only [on, beq_eq_false_iff_ne]; exact hne.2.2.2) hu⟩
  · simp only [SC, Bool.and_eq_false_iff, decide_eq_false_iff_not] at h
    simp only [on, beq_eq_false_iff_ne]; omega
  · rw [← hω, wr_22, px_up_n (by decide), wr_22]; exact px_up_s _ _ _ _
  · rw [← hω, wr_22]; exact px_up_s _ _ _ _
theorem a_selves (hc : cl σ n B) : agI σ (f_12040 tT σ 100) (fun τ => f_108 tT τ 0) n B := by
  obtain ⟨hR, ht⟩ := hc
  have hw := ht.2.2.2.1
  have hn := hw.1
  have e1 := ht.2.2.2.2.1
  have k1 : vp_in (nI 1) 3216 := (vp_in_eq (by omega)).mpr (by omega)
  have k2 : (nI 1).toNatClampNeg = 1 := nI_clamp (by omega)
  by_cases h8 : n ≤ 8
  · have a1 : nI n ≤ nI 8 := by rw [nI_leI (by omega) (by omega)]; exact h8
    obtain ⟨ω, hω, w1, w2, w3, w4, w5, w6⟩ := c_kin hR (u := 111) (by decide) ht ht
    obtain ⟨b, q1, υ, rfl, q2⟩ := c_selves (t := 111) ⟨w2, w3, w4, by decide, w5, w6⟩ h8
    refine ⟨nI (wys n B n), υ, ?_, fr_tr w1 (fr_mono q2 SC_191), fun τ hm => ?_⟩
    · simp only [f_12040, f_6006, la_100, la_110, la_111, la_190, rc_100_0 hR, rc_110_0 hR, rc_100_8 hR, gd_tt, oA_arr, px_obj_s, Option.bind_some, Option.map_some, Option.bind_none, eq_self, true_or, or_true, px_av_0, px_av_1, px_av_2, px_av_10, px_av_11, bn, wi_1, wi_2, wl_1, wl_21, wl_22, wr_1, wr_21, wr_22, Sum.elim_inl, Sum.elim_inr, ↓reduceIte, Nat.reduceLT, Nat.reduceLeDiff, not_false_eq_true, not_true_eq_false, Nat.reduceEqDiff, Nat.reduceAdd, reduceCtorEq, and_true, true_and, and_false, false_and, false_or, or_false, e1, a1, hω, q1]
    · obtain ⟨hRm, -, e2, hnb⟩ := mo_thr hm
      obtain ⟨χ, p1, p2, p3, p4⟩ := e_laysOther (off := 0) (n := n) (D := B) hRm (by omega) (by rw [Nat.zero_add]; exact e2) (fun h hh => by rw [Nat.zero_add]; exact hnb h hh)
      have hmχ : mo χ n B := mo_fr p2 (fun _ => rfl) (mo_thr hm)
      obtain ⟨ψ, u1, u2, -⟩ := e_matches hw hw n 0 (by omega) 24 (by omega) χ idf hmχ p4 (bgn_id (by omega)) (fun i hi => by omega)
      rw [← wys_Nc hw] at u1
      refine ⟨ψ, ?_, fr_tr (fr_thr (fr_rf _ _)) (fr_tr (fr_mono p2 SM_28) (fr_mono u2 SM_27))⟩
      show f_108 tT τ 0 = _
      have y1 : tk idf 0 = 0 := rfl
      rw [y1] at u1
      unfold f_108
      generalize px_wi τ 0 0 (nI 0) = ζ at hRm e2 p1 ⊢
      simp only [la_0, la_1, rm_0_1 hRm, k1, k2, e2, a1, gd_tt, oA_arr, px_obj_s, Option.bind_some, Option.map_some, Option.bind_none, eq_self, true_or, or_true, px_av_0, px_av_1, px_av_2, px_av_10, px_av_11, bn, wi_1, wi_2, wl_1, wl_21, wl_22, wr_1, wr_21, wr_22, Sum.elim_inl, Sum.elim_inr, ↓reduceIte, Nat.reduceLT, Nat.reduceLeDiff, not_false_eq_true, not_true_eq_false, Nat.reduceEqDiff, Nat.reduceAdd, reduceCtorEq, and_true, true_and, and_false, false_and, false_or, or_false, p1, u1]
  · have a1 : ¬ nI n ≤ nI 8 := by rw [nI_leI (by omega) (by omega)]; exact h8
    refine ⟨-4, σ, ?_, fr_rf _ _, fun τ hm => ⟨_, ?_, fr_thr (fr_rf _ _)⟩⟩
    · simp only [f_12040, la_100, la_110, la_111, rc_100_0 hR, rc_110_0 hR, gd_tt, oA_arr, px_obj_s, Option.bind_some, Option.map_some, Option.bind_none, eq_self, true_or, or_true, px_av_0, px_av_1, px_av_2, px_av_10, px_av_11, bn, wi_1, wi_2, wl_1, wl_21, wl_22, wr_1, wr_21, wr_22, Sum.elim_inl, Sum.elim_inr, ↓reduceIte, Nat.reduceLT, Nat.reduceLeDiff, not_false_eq_true, not_true_eq_false, Nat.reduceEqDiff, Nat.reduceAdd, reduceCtorEq, and_true, true_and, and_false, false_and, false_or, or_false, e1, a1]
    · show f_108 tT τ 0 = _
      obtain ⟨hRm, -, e2, -⟩ := mo_thr hm
      unfold f_108
      generalize px_wi τ 0 0 (nI 0) = ζ at hRm e2 ⊢
      simp only [la_0, la_1, rm_0_1 hRm, k1, k2, e2, a1, gd_tt, oA_arr, px_obj_s, Option.bind_some, Option.map_some, Option.bind_none, eq_self, true_or, or_true, px_av_0, px_av_1, px_av_2, px_av_10, px_av_11, bn, wi_1, wi_2, wl_1, wl_21, wl_22, wr_1, wr_21, wr_22, Sum.elim_inl, Sum.elim_inr, ↓reduceIte, Nat.reduceLT, Nat.reduceLeDiff, not_false_eq_true, not_true_eq_false, Nat.reduceEqDiff, Nat.reduceAdd, reduceCtorEq, and_true, true_and, and_false, false_and, false_or, or_false]
/-- what alike comes to, when there is an image -/
theorem c_canBe (hR : cR σ.2.2) (ht : ct σ 111 n B) {u m : Nat} (hne : u ≠ 191 ∧ u + 1 ≠ 191 ∧ u ≠ 190 ∧ u + 1 ≠ 190) (hu : ct σ u m D) (h8 : n ≤ 8) : ∃ υ, f_6005 tT σ 190 111 u = some (mb (decide (n = m) && exb n B D 0 idf), υ) ∧ fr SC σ υ := by
  have hw := ht.2.2.2.1
  have hwD := hu.2.2.2.1
  obtain ⟨ω, hω, w1, w2, w3, w4, w5, w6⟩ := c_kin hR hne ht hu
  have e1 := w5.2.2.2.2.1
  have e2 := w6.2.2.2.2.1
  have hm11 := hwD.1
  by_cases hnm : n = m
  · subst hnm
    have d1 := c_doors w5
    have d2 := c_doors w6
    have l1 := dm_le hw
    have l2 := dm_le hwD
    rw [decide_eq_true rfl, Bool.true_and]
    by_cases hd : dm n B = dm n D
    · have z : (nI (dm n B) = nI (dm n D)) = True := eq_true (by rw [hd])
      obtain ⟨υ, q1, q2, -⟩ := c_match (t := 111) (u := u) n 0 (by omega) 24 (by omega) ω idf ⟨w2, w3, w4, ⟨by decide, by decide, hne.1, hne.2.1⟩, w5, w6⟩ (bgn_id (by omega)) (fun i j hi => by omega) (fun i hi => by omega)
      have y1 : tk idf 0 = 0 := rfl
      rw [y1] at q1
      refine ⟨υ, ?_, fr_tr w1 (fr_mono q2 SC_191)⟩
      cases hb : exb n B D 0 idf with
      | false =>
        rw [hb, mb_f0] at q1
        simp only [f_6005, f_6005_32, f_6005_45, la_190, la_111, hu.1, hω, e1, e2, d1, d2, z, gd_tt, oA_arr, px_obj_s, Option.bind_some, Option.map_some, Option.bind_none, eq_self, true_or, or_true, px_av_0, px_av_1, px_av_2, px_av_10, px_av_11, bn, wi_1, wi_2, wl_1, wl_21, wl_22, wr_1, wr_21, wr_22, Sum.elim_inl, Sum.elim_inr, ↓reduceIte, Nat.reduceLT, Nat.reduceLeDiff, not_false_eq_true, not_true_eq_false, Nat.reduceEqDiff, Nat.reduceAdd, reduceCtorEq, and_true, true_and, and_false, false_and, false_or, or_false, q1, mb_f0]
      | true =>
        rw [hb, mb_t1] at q1
        simp only [f_6005, f_6005_32, la_190, la_111, hu.1, hω, e1, e2, d1, d2, z, gd_tt, oA_arr, px_obj_s, Option.bind_some, Option.map_some, Option.bind_none, eq_self, true_or, or_true, px_av_0, px_av_1, px_av_2, px_av_10, px_av_11, bn, wi_1, wi_2, wl_1, wl_21, wl_22, wr_1, wr_21, wr_22, Sum.elim_inl, Sum.elim_inr, ↓reduceIte, Nat.reduceLT, Nat.reduceLeDiff, not_false_eq_true, not_true_eq_false, Nat.reduceEqDiff, Nat.reduceAdd, reduceCtorEq, and_true, true_and, and_false, false_and, false_or, or_false, q1, n10, mb_t1]
    · have z : ¬ nI (dm n B) = nI (dm n D) := by rw [nI_eq (by omega) (by omega)]; exact hd
      have hno : exb n B D 0 idf = false := by
        cases hb : exb n B D 0 idf with
        | false => rfl
        | true =>
          obtain ⟨p, p1, -⟩ := exb_t.mp hb
          exact absurd (iso_dm hw hwD p1) hd
      refine ⟨ω, ?_, w1⟩
      rw [hno, mb_f0]
      simp only [f_6005, f_6005_45, la_190, la_111, hu.1, hω, e1, e2, d1, d2, z, gd_tt, oA_arr, px_obj_s, Option.bind_some, Option.map_some, Option.bind_none, eq_self, true_or, or_true, px_av_0, px_av_1, px_av_2, px_av_10, px_av_11, bn, wi_1, wi_2, wl_1, wl_21, wl_22, wr_1, wr_21, wr_22, Sum.elim_inl, Sum.elim_inr, ↓reduceIte, Nat.reduceLT, Nat.reduceLeDiff, not_false_eq_true, not_true_eq_false, Nat.reduceEqDiff, Nat.reduceAdd, reduceCtorEq, and_true, true_and, and_false, false_and, false_or, or_false]
  · have z : ¬ nI n = nI m := by rw [nI_eq (by omega) (by omega)]; exact hnm
    refine ⟨ω, ?_, w1⟩
    rw [decide_eq_false hnm, Bool.false_and, mb_f0]
    simp only [f_6005, f_6005_45, la_190, la_111, hu.1, hω, e1, e2, z, gd_tt, oA_arr, px_obj_s, Option.bind_some, Option.map_some, Option.bind_none, eq_self, true_or, or_true, px_av_0, px_av_1, px_av_2, px_av_10, px_av_11, bn, wi_1, wi_2, wl_1, wl_21, wl_22, wr_1, wr_21, wr_22, Sum.elim_inl, Sum.elim_inr, ↓reduceIte, Nat.reduceLT, Nat.reduceLeDiff, not_false_eq_true, not_true_eq_false, Nat.reduceEqDiff, Nat.reduceAdd, reduceCtorEq, and_true, true_and, and_false, false_and, false_or, or_false]
theorem e_alike (hm : mo σ n B) {off m : Nat} (ho : off ≤ 2144) (hwD : wf m D) (h1 : σ.1 1 (off + 1) = nI m) (h2 : ∀ h, h < 11 → σ.1 1 (off + 2 + h) = nI (D h)) : ∃ υ ρ, f_107 tT σ 0 (nI off) = some ρ ∧ f_109_41 tT ρ 0 = some (if 8 < n ∨ 8 < m then -4 else mb (decide (n = m) && exb n B D 0 idf), υ) ∧ fr SM σ υ := by
  have hw := hm.2.1
  have hn := hw.1
  have hm11 := hwD.1
  have k1 : vp_in (nI 1) 3216 := (vp_in_eq (by omega)).mpr (by omega)
  have k2 : (nI 1).toNatClampNeg = 1 := nI_clamp (by omega)
  obtain ⟨χ, p1, p2, p3, p4⟩ := e_laysOther (off := off) (n := m) (D := D) hm.1 ho h1 h2
  have hmχ : mo χ n B := mo_fr p2 (fun _ => rfl) hm
  obtain ⟨hRχ, -, e1, -⟩ := id hmχ
  by_cases h8 : 8 < n
  · have a1 : nI 8 < nI n := by rw [nI_ltI (by omega) (by omega)]; exact h8
    refine ⟨χ, χ, p1, ?_, fr_mono p2 SM_28⟩
    rw [if_pos (Or.inl h8)]
    simp only [f_109_41, f_109_61, la_0, la_1, rm_0_1 hRχ, k1, k2, e1, a1, gd_tt, oA_arr, px_obj_s, Option.bind_some, Option.map_some, Option.bind_none, eq_self, true_or, or_true, px_av_0, px_av_1, px_av_2, px_av_10, px_av_11, bn, wi_1, wi_2, wl_1, wl_21, wl_22, wr_1, wr_21, wr_22, Sum.elim_inl, Sum.elim_inr, ↓reduceIte, Nat.reduceLT, Nat.reduceLeDiff, not_false_eq_true, not_true_eq_false, Nat.reduceEqDiff, Nat.reduceAdd, reduceCtorEq, and_true, true_and, and_false, false_and, false_or, or_false]
  · have a1 : ¬ nI 8 < nI n := by rw [nI_ltI (by omega) (by omega)]; exact h8
    by_cases h8m : 8 < m
    · have a2 : ¬ nI m ≤ nI 8 := by rw [nI_leI (by omega) (by omega)]; omega
      refine ⟨χ, χ, p1, ?_, fr_mono p2 SM_28⟩
      rw [if_pos (Or.inr h8m)]
      simp only [f_109_41, f_109_61, la_0, la_1, rm_0_1 hRχ, k1, k2, e1, a1, p3, a2, gd_tt, oA_arr, px_obj_s, Option.bind_some, Option.map_some, Option.bind_none, eq_self, true_or, or_true, px_av_0, px_av_1, px_av_2, px_av_10, px_av_11, bn, wi_1, wi_2, wl_1, wl_21, wl_22, wr_1, wr_21, wr_22, Sum.elim_inl, Sum.elim_inr, ↓reduceIte, Nat.reduceLT, Nat.reduceLeDiff, not_false_eq_true, not_true_eq_false, Nat.reduceEqDiff, Nat.reduceAdd, reduceCtorEq, and_true, true_and, and_false, false_and, false_or, or_false]
    · have a2 : nI m ≤ nI 8 := by rw [nI_leI (by omega) (by omega)]; omega
      rw [if_neg (by omega)]
      by_cases hnm : n = m
      · subst hnm
        obtain ⟨ψ, u1, u2, -⟩ := e_matches hw hwD n 0 (by omega) 24 (by omega) χ idf hmχ p4 (bgn_id (by omega)) (fun i hi => by omega)
        have y1 : tk idf 0 = 0 := rfl
        rw [y1] at u1
        have hle := Nc_le (n := n) (B := B) (D := D) n 0 idf
        have hle2 : n ^ n ≤ 8 ^ 8 := Nat.le_trans (Nat.pow_le_pow_left (show n ≤ 8 by omega) n) (Nat.pow_le_pow_right (by omega) (by omega))
        have hpos := Nc_pos hw hwD n 0 (by omega) idf (bgn_id (by omega)) (fun i j hi => by omega)
        refine ⟨ψ, χ, p1, ?_, fr_tr (fr_mono p2 SM_28) (fr_mono u2 SM_27)⟩
        rw [decide_eq_true rfl, Bool.true_and]
        cases hb : exb n B D 0 idf with
        | true =>
          have a3 : ¬ nI (Nc n B D n 0 idf) ≤ nI 0 := by
            rw [nI_leI (by omega) (by omega)]
            have := hpos.mpr (exb_t.mp hb)
            omega
          simp only [f_109_41, f_109_86, la_0, la_1, rm_0_1 hRχ, k1, k2, e1, a1, p3, a2, gd_tt, oA_arr, px_obj_s, Option.bind_some, Option.map_some, Option.bind_none, eq_self, true_or, or_true, px_av_0, px_av_1, px_av_2, px_av_10, px_av_11, bn, wi_1, wi_2, wl_1, wl_21, wl_22, wr_1, wr_21, wr_22, Sum.elim_inl, Sum.elim_inr, ↓reduceIte, Nat.reduceLT, Nat.reduceLeDiff, not_false_eq_true, not_true_eq_false, Nat.reduceEqDiff, Nat.reduceAdd, reduceCtorEq, and_true, true_and, and_false, false_and, false_or, or_false, u1, a3, mb_t1]
        | false =>
          have a3 : nI (Nc n B D n 0 idf) ≤ nI 0 := by
            rw [nI_leI (by omega) (by omega)]
            apply Classical.byContradiction
            intro q
            have := exb_t.mpr (hpos.mp (by omega))
            rw [hb] at this
            cases this
          simp only [f_109_41, f_109_90, la_0, la_1, rm_0_1 hRχ, k1, k2, e1, a1, p3, a2, gd_tt, oA_arr, px_obj_s, Option.bind_some, Option.map_some, Option.bind_none, eq_self, true_or, or_true, px_av_0, px_av_1, px_av_2, px_av_10, px_av_11, bn, wi_1, wi_2, wl_1, wl_21, wl_22, wr_1, wr_21, wr_22, Sum.elim_inl, Sum.elim_inr, ↓reduceIte, Nat.reduceLT, Nat.reduceLeDiff, not_false_eq_true, not_true_eq_false, Nat.reduceEqDiff, Nat.reduceAdd, reduceCtorEq, and_true, true_and, and_false, false_and, false_or, or_false, u1, a3, mb_f0]
      · have z : ¬ nI m = nI n := by rw [nI_eq (by omega) (by omega)]; omega
        refine ⟨χ, χ, p1, ?_, fr_mono p2 SM_28⟩
        rw [decide_eq_false hnm, Bool.false_and, mb_f0]
        simp only [f_109_41, f_109_90, la_0, la_1, rm_0_1 hRχ, k1, k2, e1, a1, p3, a2, gd_tt, oA_arr, px_obj_s, Option.bind_some, Option.map_some, Option.bind_none, eq_self, true_or, or_true, px_av_0, px_av_1, px_av_2, px_av_10, px_av_11, bn, wi_1, wi_2, wl_1, wl_21, wl_22, wr_1, wr_21, wr_22, Sum.elim_inl, Sum.elim_inr, ↓reduceIte, Nat.reduceLT, Nat.reduceLeDiff, not_false_eq_true, not_true_eq_false, Nat.reduceEqDiff, Nat.reduceAdd, reduceCtorEq, and_true, true_and, and_false, false_and, false_or, or_false, z]
end
