/-! selves, alike: the model -/
section
variable {σ τ : px_M} {t n : Nat} {B D : Nat → Nat}
def M28 (l j : Nat) : Bool := l == 27 || l == 28 || (l == 0 && j == 30)
theorem mo_27 {υ : px_M} (h : fr (on 27) σ υ) (hm : mo σ n B) : mo υ n B := mo_on (by decide) h hm
theorem e_matches (hw : wf n B) (hwD : wf n D) : ∀ k h, h + k = n → ∀ d, k + 1 ≤ d → ∀ (σ : px_M) (m : Nat → Nat), mo σ n B → (∀ x, x < 11 → σ.1 28 x = nI (D x)) → bgn n h m → (∀ i, i < h → σ.1 27 i = nI (m i)) → ∃ υ, f_106 tT d σ 0 (nI h) (nI (tk m h)) = some (nI (Nc n B D k h m), υ) ∧ fr (on 27) σ υ ∧ ∀ i, i < h → υ.1 27 i = σ.1 27 i := by
  have k1 : vp_in (nI 1) 3216 := (vp_in_eq (by omega)).mpr (by omega)
  have k2 : (nI 1).toNatClampNeg = 1 := nI_clamp (by omega)
  have hn := hw.1
  intro k
  induction k with
  | zero =>
    intro h hh d hd σ m hm hD hb hr
    have hhn : h = n := by omega
    subst hhn
    obtain ⟨d, rfl⟩ : ∃ d', d = d' + 1 := ⟨d - 1, by omega⟩
    obtain ⟨hR, -, e1, -⟩ := id hm
    refine ⟨σ, ?_, fr_rf _ _, fun _ _ => rfl⟩
    rw [f_106_S]
    unfold F_106
    simp only [la_0, la_1, rm_0_1 hR, k1, k2, e1, gd_tt, oA_arr, px_obj_s, Option.bind_some, Option.map_some, Option.bind_none, eq_self, true_or, or_true, px_av_0, px_av_1, px_av_2, px_av_10, px_av_11, bn, wi_1, wi_2, wl_1, wl_21, wl_22, wr_1, wr_21, wr_22, Sum.elim_inl, Sum.elim_inr, ↓reduceIte, Nat.reduceLT, Nat.reduceLeDiff, not_false_eq_true, not_true_eq_false, Nat.reduceEqDiff, Nat.reduceAdd, reduceCtorEq, and_true, true_and, and_false, false_and, false_or, or_false]
    rfl
  | succ k ih =>
    intro h hh d hd σ m hm hD hb hr
    obtain ⟨d, rfl⟩ : ∃ d', d = d' + 1 := ⟨d - 1, by omega⟩
    obtain ⟨hR, -, e1, -⟩ := id hm
    have hhn : h < n := by omega
    have a1 : ¬ nI h = nI n := by rw [nI_eq (by omega) (by omega)]; omega
    have htl := tk_lt hb.1
    have hp := pw_le hn
    have c1 : vp_in (nI h) 11 := (vp_in_eq (by omega)).mpr (by omega)
    have c2 : (nI h).toNatClampNeg = h := nI_clamp (by omega)
    have hNc : Nc n B D (k + 1) h m = sm (fun x => if (tk m h).testBit x = false ∧ ∀ i, i < h → (B h).testBit i = (D x).testBit (m i) then Nc n B D k (h + 1) (upm m h x) else 0) n := rfl
    have lp : ∃ b, f_106_17 tT (f_106 tT d) 0 (nI h) (nI (tk m h)) (nI 0) (nI 0) σ = some b ∧ ∃ υ, b = (nI (Nc n B D (k + 1) h m), υ) ∧ fr (on 27) σ υ ∧ ∀ i, i < h → υ.1 27 i = σ.1 27 i := by
      rw [hNc]
      unfold f_106_17
      refine lp_for (F := fun s : Int32 × Int32 × px_M => F_106_17 tT (f_106 tT d) 0 (nI h) (nI (tk m h)) s.1 s.2.1 s.2.2) (fun x q => ∃ ρ, q = (nI (sm (fun x => if (tk m h).testBit x = false ∧ ∀ i, i < h → (B h).testBit i = (D x).testBit (m i) then Nc n B D k (h + 1) (upm m h x) else 0) x), nI x, ρ) ∧ fr (on 27) σ ρ ∧ ∀ i, i < h → ρ.1 27 i = σ.1 27 i) _ n (fun x q hx hI => ?_) (fun q hI => ?_) 0 (nI 0, nI 0, σ) (by omega) ⟨σ, rfl, fr_rf _ _, fun _ _ => rfl⟩
      · obtain ⟨ρ, rfl, g1, g2⟩ := hI
        have hmρ := mo_27 g1 hm
        obtain ⟨hRρ, -, e1ρ, -⟩ := id hmρ
        have b1 : ¬ nI n ≤ nI x := by rw [nI_leI (by omega) (by omega)]; omega
        have l0 : (nI (tk m h)).toInt64 = lN (tk m h) := nI_l (by omega)
        have tst := e_isIn ρ (s := tk m h) (j := x) (by omega) (by omega)
        have hDx : ρ.1 28 x = nI (D x) := by rw [g1.1 28 x rfl]; exact hD x (by omega)
        have hDl := wf_2048 hwD x
        have mρ : ∀ i, i < h → ρ.1 27 i = nI (m i) := fun i hi => by rw [g2 i hi]; exact hr i hi
        have hS : sm (fun x => if (tk m h).testBit x = false ∧ ∀ i, i < h → (B h).testBit i = (D x).testBit (m i) then Nc n B D k (h + 1) (upm m h x) else 0) (x + 1) = sm (fun x => if (tk m h).testBit x = false ∧ ∀ i, i < h → (B h).testBit i = (D x).testBit (m i) then Nc n B D k (h + 1) (upm m h x) else 0) x + (if (tk m h).testBit x = false ∧ ∀ i, i < h → (B h).testBit i = (D x).testBit (m i) then Nc n B D k (h + 1) (upm m h x) else 0) := rfl
        rw [hS]
        generalize sm (fun x => if (tk m h).testBit x = false ∧ ∀ i, i < h → (B h).testBit i = (D x).testBit (m i) then Nc n B D k (h + 1) (upm m h x) else 0) x = Z
        -- the end of a try
        have fin0 : f_106_104 tT (f_106 tT d) ρ 0 (nI h) (nI (tk m h)) (nI Z) (nI x) (nI 0) = some (.inl (nI Z, nI (x + 1), ρ)) := by
          simp only [f_106_104, f_106_136, gd_tt, oA_arr, px_obj_s, Option.bind_some, Option.map_some, Option.bind_none, eq_self, true_or, or_true, px_av_0, px_av_1, px_av_2, px_av_10, px_av_11, bn, wi_1, wi_2, wl_1, wl_21, wl_22, wr_1, wr_21, wr_22, Sum.elim_inl, Sum.elim_inr, ↓reduceIte, Nat.reduceLT, Nat.reduceLeDiff, not_false_eq_true, not_true_eq_false, Nat.reduceEqDiff, Nat.reduceAdd, reduceCtorEq, and_true, true_and, and_false, false_and, false_or, or_false, nI_add]
        -- from a first look: is it free
        have look : ∀ v : Bool, ∃ υ, f_106_48 tT (f_106 tT d) ρ 0 (nI h) (nI (tk m h)) (nI Z) (nI x) (mb v) (nI 0) = some (.inl (nI (Z + (if v = true ∧ (tk m h).testBit x = false ∧ ∀ i, i < h → (B h).testBit i = (D x).testBit (m i) then Nc n B D k (h + 1) (upm m h x) else 0)), nI (x + 1), υ)) ∧ fr (on 27) ρ υ ∧ ∀ i, i < h → υ.1 27 i = σ.1 27 i := by
          sorry
        sorry
      · obtain ⟨ρ, rfl, g1, g2⟩ := hI
        obtain ⟨hRρ, -, e1ρ, -⟩ := mo_27 g1 hm
        have b1 : nI n ≤ nI n := by rw [nI_leI (by omega) (by omega)]; omega
        refine ⟨_, ?_, ρ, rfl, g1, g2⟩
        dsimp only
        unfold F_106_17
        simp only [la_0, la_1, rm_0_1 hRρ, k1, k2, e1ρ, b1, gd_tt, oA_arr, px_obj_s, Option.bind_some, Option.map_some, Option.bind_none, eq_self, true_or, or_true, px_av_0, px_av_1, px_av_2, px_av_10, px_av_11, bn, wi_1, wi_2, wl_1, wl_21, wl_22, wr_1, wr_21, wr_22, Sum.elim_inl, Sum.elim_inr, ↓reduceIte, Nat.reduceLT, Nat.reduceLeDiff, not_false_eq_true, not_true_eq_false, Nat.reduceEqDiff, Nat.reduceAdd, reduceCtorEq, and_true, true_and, and_false, false_and, false_or, or_false]
    obtain ⟨b, q1, υ, rfl, q2⟩ := lp
    refine ⟨υ, ?_, q2⟩
    rw [f_106_S]
    unfold F_106 f_106_14
    simp only [la_0, la_1, rm_0_1 hR, k1, k2, e1, a1, gd_tt, oA_arr, px_obj_s, Option.bind_some, Option.map_some, Option.bind_none, eq_self, true_or, or_true, px_av_0, px_av_1, px_av_2, px_av_10, px_av_11, bn, wi_1, wi_2, wl_1, wl_21, wl_22, wr_1, wr_21, wr_22, Sum.elim_inl, Sum.elim_inr, ↓reduceIte, Nat.reduceLT, Nat.reduceLeDiff, not_false_eq_true, not_true_eq_false, Nat.reduceEqDiff, Nat.reduceAdd, reduceCtorEq, and_true, true_and, and_false, false_and, false_or, or_false, q1]
end
