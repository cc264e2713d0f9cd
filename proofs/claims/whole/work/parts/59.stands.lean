/-! rules: whether one stands for a house, in the class -/
def us (S C : Nat → Nat) (r : Nat) : Nat := uset (fun k => C (S r + k)) (S (r + 1) - S r)
/-- rules in the class, at label R -/
def cru (σ : px_M) (R nr : Nat) (S C : Nat → Nat) : Prop := (px_lay tT R = some (.inl 10) ∧ px_lay tT (R + 1) = some (.inr (0, 7)) ∧ px_lay tT (R + 2) = some (.inr (0, 6)) ∧ px_lay tT (R + 3) = some (.inr (0, 900))) ∧ (σ.2.2 R 1 = some (R + 1) ∧ σ.2.2 R 2 = some (R + 2) ∧ σ.2.2 R 3 = some (R + 3)) ∧ σ.1 R 0 = nI nr ∧ (∀ r, r ≤ nr → σ.1 (R + 1) r = nI (S r)) ∧ (∀ r, r < nr → σ.1 (R + 2) r = nI (us S C r)) ∧ (∀ i, i < S nr → σ.1 (R + 3) i = nI (ctr (C i))) ∧ σ.1 R 4 = nI (S nr)
theorem cru_fr {Q : Nat → Nat → Bool} {σ τ : px_M} {R nr : Nat} {S C : Nat → Nat} (h : fr Q σ τ) (h0 : ∀ j, Q R j = false) (h1 : ∀ j, Q (R + 1) j = false) (h2 : ∀ j, Q (R + 2) j = false) (h3 : ∀ j, Q (R + 3) j = false) (hc : cru σ R nr S C) : cru τ R nr S C := by
  obtain ⟨l, ⟨r1, r2, r3⟩, a, b, c, d, e⟩ := hc
  refine ⟨l, ⟨?_, ?_, ?_⟩, ?_, fun r hr => ?_, fun r hr => ?_, fun i hi => ?_, ?_⟩
  · rw [h.2.2 R 1 (Or.inl (h0 1))]; exact r1
  · rw [h.2.2 R 2 (Or.inl (h0 2))]; exact r2
  · rw [h.2.2 R 3 (Or.inl (h0 3))]; exact r3
  · rw [h.1 R 0 (h0 0)]; exact a
  · rw [h.1 (R + 1) r (h1 r)]; exact b r hr
  · rw [h.1 (R + 2) r (h2 r)]; exact c r hr
  · rw [h.1 (R + 3) i (h3 i)]; exact d i hi
  · rw [h.1 R 4 (h0 4)]; exact e
section
variable {σ τ : px_M} {u R n : Nat} {B : Nat → Nat}
theorem wcd_ctr {c : Nat} (hc : wrd c) (h1 : 1000 ≤ c) : 1000 ≤ ctr c ∧ ctr c < 1009 ∧ wcd (ctr c - 1000) = c := by
  have h3 := ctr_w hc
  have hq : c = 1000 ∨ c = 1001 ∨ c = 1002 ∨ c = 1003 ∨ c = 1004 ∨ c = 1005 ∨ c = 1006 ∨ c = 1007 ∨ c = 1100 := by unfold wrd at hc; omega
  refine ⟨?_, h3, ?_⟩
  · rcases hq with rfl | rfl | rfl | rfl | rfl | rfl | rfl | rfl | rfl <;> decide
  · rcases hq with rfl | rfl | rfl | rfl | rfl | rfl | rfl | rfl | rfl <;> rfl
theorem c_meaning (hR : cR σ.2.2) {c h : Nat} (hc : wrd c) (h1 : 1000 ≤ c) (hh : h < n) (hn : n ≤ 11) {P : Nat → Prop} (hK : knw σ n B P) (hP : P (ctr c - 1000)) : f_2012 tT σ 210 (nI (ctr c)) (nI h) = some (nI (wv n B h c)) := by
  obtain ⟨e1, e2, e3⟩ := wcd_ctr hc h1
  have v := hK (ctr c - 1000) (by omega) hP h hh
  rw [e3] at v
  generalize hw : ctr c = q at e1 e2 v hP
  have s1 : nI q - nI 1000 = nI (q - 1000) := ni_subL (by omega)
  unfold f_2012
  have fin : ∀ j, j < 99 → σ.1 220 j = nI (wv n B h c) → f_2012_22 tT σ 210 (nI j) = some (nI (wv n B h c)) := by
    intro j hj hv
    have a1 : ¬ nI j < nI 0 := by rw [nI_ltI (by omega) (by omega)]; omega
    have a2 : ¬ nI 99 ≤ nI j := by rw [nI_leI (by omega) (by omega)]; omega
    have c1 : vp_in (nI j) 99 := (vp_in_eq (by omega)).mpr (by omega)
    have c2 : (nI j).toNatClampNeg = j := nI_clamp (by omega)
    unfold f_2012_22
    simp only [a1, a2, la_210, la_220, rc_210_4 hR, gd_tt, oA_arr, px_obj_s, Option.bind_some, Option.map_some, Option.bind_none, eq_self, true_or, or_true, px_av_0, px_av_1, px_av_2, px_av_10, px_av_11, bn, wi_1, wi_2, wl_1, wl_21, wl_22, wr_1, wr_21, wr_22, Sum.elim_inl, Sum.elim_inr, ↓reduceIte, Nat.reduceLT, Nat.reduceLeDiff, not_false_eq_true, not_true_eq_false, Nat.reduceEqDiff, Nat.reduceAdd, reduceCtorEq, and_true, true_and, and_false, false_and, false_or, or_false, c1, c2, hv]
  by_cases h4 : q < 1004
  · have hs : wsl (q - 1000) h = (q - 1000) * 11 + h := by unfold wsl; rw [if_pos (by omega)]
    rw [hs] at v
    rw [if_neg (by rw [nI_leI (by omega) (by omega)]; omega), s1, pk_mul, nI_add]
    exact fin _ (by omega) v
  · have hs : wsl (q - 1000) h = (q - 1000) * 11 + 0 := by unfold wsl; rw [if_neg (by omega)]
    rw [hs] at v
    rw [if_pos (by rw [nI_leI (by omega) (by omega)]; omega), s1, pk_mul, nI_add]
    exact fin _ (by omega) v
theorem c_kept (σ : px_M) (x : Int64) : f_2015 tT σ x = some (clp x) := by
  unfold f_2015 clp
  by_cases h1 : x < lN 1000000
  · rw [if_pos h1, if_pos (Int64.le_of_lt h1)]
    by_cases h3 : x < -1000000
    · rw [if_pos h3, if_neg (Int64.not_le.mpr h3)]
    · rw [if_neg h3, if_pos (Int64.not_lt.mp h3)]
  · rw [if_neg h1, if_neg (by decide)]
    by_cases h2 : x ≤ lN 1000000
    · have : x = lN 1000000 := Int64.le_antisymm h2 (Int64.not_lt.mp h1)
      subst this
      rw [if_pos h2, if_pos (by decide)]
    · rw [if_neg h2]
theorem c_worked (σ : px_M) {c : Nat} (h1 : 3000 ≤ c) (h2 : c ≤ 3007) (a b : Int32) (hab : 3006 ≤ c → (a = nI 0 ∨ a = nI 1) ∧ (b = nI 0 ∨ b = nI 1)) : f_2014 tT σ (nI (ctr c)) a b = some (bw c a b) := by
  have hc : c = 3000 ∨ c = 3001 ∨ c = 3002 ∨ c = 3003 ∨ c = 3004 ∨ c = 3005 ∨ c = 3006 ∨ c = 3007 := by omega
  rcases hc with rfl | rfl | rfl | rfl | rfl | rfl | rfl | rfl
  · show (f_2015 tT σ (a.toInt64 + b.toInt64)).bind (fun r => some r) = _
    rw [c_kept]; rfl
  · show (f_2015 tT σ (a.toInt64 - b.toInt64)).bind (fun r => some r) = _
    rw [c_kept]; rfl
  · show (f_2015 tT σ (a.toInt64 * b.toInt64)).bind (fun r => some r) = _
    rw [c_kept]; rfl
  · show bn (a = b) (some (nI 0)) (some (nI 1)) = some (if a = b then nI 1 else nI 0)
    unfold bn; split <;> rfl
  · show (if b ≤ a then some (nI 0) else some (nI 1)) = some (if b ≤ a then nI 0 else nI 1)
    split <;> rfl
  · show (if a ≤ b then some (nI 0) else some (nI 1)) = some (if a ≤ b then nI 0 else nI 1)
    split <;> rfl
  · show some (a &&& b) = some (if a + b = nI 2 then nI 1 else nI 0)
    obtain ⟨x, y⟩ := hab (by decide)
    rcases x with rfl | rfl <;> rcases y with rfl | rfl <;> decide
  · show some (a ||| b) = some (if a + b ≤ nI 0 then nI 0 else nI 1)
    obtain ⟨x, y⟩ := hab (by decide)
    rcases x with rfl | rfl <;> rcases y with rfl | rfl <;> decide
theorem c_stands (hR : cR σ.2.2) (h5 : σ.2.2 210 5 = some R) (hR8 : R ≠ 218 ∧ R + 1 ≠ 218 ∧ R + 2 ≠ 218 ∧ R + 3 ≠ 218) {nr : Nat} {S C : Nat → Nat} (hru : rul nr S C) (hcr : cru σ R nr S C) (hn : n ≤ 11) {K r h : Nat} (hK : knw σ n B (fun w => K.testBit w = true)) (hUK : ∀ w, (us S C r).testBit w = true → K.testBit w = true) (hrn : r < nr) (hh : h < n) : ∃ υ, f_2013 tT σ 210 (nI r) (nI h) = some (mb (rhr n B S C r h), υ) ∧ fr (on 218) σ υ := by
  obtain ⟨⟨l0, l1, l2, l3⟩, ⟨f1, f2, f3⟩, d0, d1, d2, d3, -⟩ := id hcr
  have u6 := hru.1
  have ule := rul_le hru
  have u900 := hru.2.2.2.1
  have hty := hru.2.2.2.2 r hrn
  have hS1 := ule (r + 1) nr (by omega) (Nat.le_refl _)
  have hS0 := hru.2.2.1 r hrn
  have s1 := d1 r (by omega)
  have s2 := d1 (r + 1) (by omega)
  unfold rhr
  have hU : ∀ k, k < S (r + 1) - S r → 1000 ≤ ctr (C (S r + k)) → ctr (C (S r + k)) < 2000 → K.testBit (ctr (C (S r + k)) - 1000) = true := fun k hk q1 q2 => hUK _ (uset_tb (fun k => C (S r + k)) hk q1 q2)
  generalize hD : (fun k => C (S r + k)) = D at hty
  have hDk : ∀ k, D k = C (S r + k) := fun k => by rw [← hD]
  generalize hM : S (r + 1) - S r = M at hty hU
  have hSM : S (r + 1) = S r + M := by omega
  rw [hSM] at s2 hS1
  have key : ∃ b, f_2013_48 tT 210 (nI h) (nI (S r + M)) (nI 0) (nI (S r)) σ = some b ∧ ∃ υ, b = (mb (rh n B h D M), υ) ∧ fr (on 218) σ υ := by
    unfold f_2013_48
    refine lp_for (F := fun s : Int32 × Int32 × px_M => F_2013_48 tT 210 (nI h) (nI (S r + M)) s.1 s.2.1 s.2.2) (fun j q => ∃ ρ, q = (nI (eR n B h D j).length, nI (S r + j), ρ) ∧ fr (on 218) σ ρ ∧ stk (ρ.1 218) (eR n B h D j)) (fun b => ∃ υ, b = (mb (rh n B h D M), υ) ∧ fr (on 218) σ υ) M (fun j q hj hI => ?_) (fun q hI => ?_) 0 (nI 0, nI (S r), σ) (by omega) ⟨σ, rfl, fr_rf _ _, trivial⟩
    · obtain ⟨ρ, rfl, g1, g2⟩ := hI
      have hRρ := cR_fr g1 hR
      have h5ρ : ρ.2.2 210 5 = some R := by rw [g1.2.2 210 5 (Or.inl rfl)]; exact h5
      have f3ρ : ρ.2.2 R 3 = some (R + 3) := by rw [g1.2.2 R 3 (Or.inl (by simp [on, hR8.1]))]; exact f3
      have v3 : ρ.1 (R + 3) (S r + j) = nI (ctr (D j)) := by rw [g1.1 (R + 3) _ (by simp only [on, beq_eq_false_iff_ne]; exact hR8.2.2.2), hDk]; exact d3 _ (by omega)
      have hKρ : knw ρ n B (fun w => K.testBit w = true) := fun w hw9 hp x hx => by rw [g1.1 220 _ rfl]; exact hK w hw9 hp x hx
      obtain ⟨ts, vs', t1, t2, t3⟩ := tR_pre hty j hj
      have t4 := tR_len t1
      have t5 := tR_V (n := n) (B := B) (h := h) t1
      have t6 := tV_len t5
      have c5 : vp_in (nI (S r + j)) 900 := (vp_in_eq (by omega)).mpr (by omega)
      have c6 : (nI (S r + j)).toNatClampNeg = S r + j := nI_clamp (by omega)
      have a1 : ¬ nI (S r + M) ≤ nI (S r + j) := by rw [nI_leI (by omega) (by omega)]; omega
      have hes : eR n B h D (j + 1) = eS n B h (D j) (eR n B h D j) := rfl
      rw [hes]
      have hUj := hU j hj
      rw [← hDk] at hUj
      have hjj : S r + (j + 1) = S r + j + 1 := by omega
      rw [hjj]
      generalize hV : eR n B h D j = vs at g2 t5 t6
      rcases t3 with ⟨w1, w2, rfl⟩ | ⟨w1, rr, rfl, rfl⟩ | ⟨w1, w2, x, y, z, rr, rfl, rfl, w3, w4⟩
      · -- a word
        have hl := wrd_lt w1
        have hcl := ctr_w w1
        have a2 : ¬ nI 2000 ≤ nI (ctr (D j)) := by rw [nI_leI (by omega) (by omega)]; omega
        have a3 : ¬ nI 64 ≤ nI vs.length := by rw [nI_leI (by omega) (by omega)]; omega
        have e1 : vp_in (nI vs.length) 64 := (vp_in_eq (by omega)).mpr (by omega)
        have e2 : (nI vs.length).toNatClampNeg = vs.length := nI_clamp (by omega)
        rw [eS_w hl]
        refine ⟨(nI (vs.length + 1), nI (S r + j + 1), px_wi ρ 218 vs.length (nI (wv n B h (D j)))), ?_, _, rfl, fr_wi g1 _ rfl, wi_s _ _ _ _, stk_up (fun i hi => ?_) g2⟩
        · dsimp only
          unfold F_2013_48 f_2013_74 f_2013_108 f_2013_189
          by_cases h10 : 1000 ≤ D j
          · obtain ⟨k1, k2, k3⟩ := wcd_ctr w1 h10
            have a4 : nI 1000 ≤ nI (ctr (D j)) := by rw [nI_leI (by omega) (by omega)]; omega
            have m := c_meaning hRρ w1 h10 hh hn hKρ (hUj k1 (by omega))
            simp only [a1, la_210, la_218, h5ρ, l0, f3ρ, l3, rc_210_2 hRρ, gd_tt, oA_arr, px_obj_s, Option.bind_some, Option.map_some, Option.bind_none, eq_self, true_or, or_true, px_av_0, px_av_1, px_av_2, px_av_10, px_av_11, bn, wi_1, wi_2, wl_1, wl_21, wl_22, wr_1, wr_21, wr_22, Sum.elim_inl, Sum.elim_inr, ↓reduceIte, Nat.reduceLT, Nat.reduceLeDiff, not_false_eq_true, not_true_eq_false, Nat.reduceEqDiff, Nat.reduceAdd, reduceCtorEq, and_true, true_and, and_false, false_and, false_or, or_false, c5, c6, v3, a2, a3, a4, m, e1, e2, nI_add]
          · have hcc : ctr (D j) = D j := by unfold ctr; rw [if_pos (by omega)]
            have hww : wv n B h (D j) = D j := by
              unfold wv
              repeat rw [if_neg (by omega)]
            have a4 : ¬ nI 1000 ≤ nI (D j) := by rw [nI_leI (by omega) (by omega)]; omega
            rw [hcc] at v3 a2
            rw [hww]
            simp only [a1, la_210, la_218, h5ρ, l0, f3ρ, l3, rc_210_2 hRρ, gd_tt, oA_arr, px_obj_s, Option.bind_some, Option.map_some, Option.bind_none, eq_self, true_or, or_true, px_av_0, px_av_1, px_av_2, px_av_10, px_av_11, bn, wi_1, wi_2, wl_1, wl_21, wl_22, wr_1, wr_21, wr_22, Sum.elim_inl, Sum.elim_inr, ↓reduceIte, Nat.reduceLT, Nat.reduceLeDiff, not_false_eq_true, not_true_eq_false, Nat.reduceEqDiff, Nat.reduceAdd, reduceCtorEq, and_true, true_and, and_false, false_and, false_or, or_false, c5, c6, v3, a2, a3, a4, e1, e2, nI_add]
        · show px_up ρ.1 218 vs.length _ 218 i = _
          rw [up_s, if_neg (by omega)]
      · cases vs with
        | nil => exact t5.elim
        | cons v vs =>
          have hDj : ctr (D j) = 2006 := by rw [w1]; rfl
          rw [hDj] at v3
          have a2 : nI 2000 ≤ nI 2006 := by decide
          simp only [List.length_cons] at t6 t4
          have a3 : ¬ nI (vs.length + 1) ≤ nI 0 := by rw [nI_leI (by omega) (by omega)]; omega
          have e1 : vp_in (nI vs.length) 64 := (vp_in_eq (by omega)).mpr (by omega)
          have e2 : (nI vs.length).toNatClampNeg = vs.length := nI_clamp (by omega)
          have e3 : nI (vs.length + 1) - nI 1 = nI vs.length := by rw [ni_subL (by omega)]; rfl
          have e4 : ρ.1 218 vs.length = v := g2.1
          rw [w1, eS_n]
          refine ⟨(nI (vs.length + 1), nI (S r + j + 1), px_wi ρ 218 vs.length (nI 1 - v)), ?_, _, rfl, fr_wi g1 _ rfl, wi_s _ _ _ _, stk_up (fun i hi => ?_) g2.2⟩
          · dsimp only
            unfold F_2013_48 f_2013_114 f_2013_135 f_2013_144 f_2013_146 f_2013_189
            simp only [a1, la_210, la_218, h5ρ, l0, f3ρ, l3, rc_210_2 hRρ, gd_tt, oA_arr, px_obj_s, Option.bind_some, Option.map_some, Option.bind_none, eq_self, true_or, or_true, px_av_0, px_av_1, px_av_2, px_av_10, px_av_11, bn, wi_1, wi_2, wl_1, wl_21, wl_22, wr_1, wr_21, wr_22, Sum.elim_inl, Sum.elim_inr, ↓reduceIte, Nat.reduceLT, Nat.reduceLeDiff, not_false_eq_true, not_true_eq_false, Nat.reduceEqDiff, Nat.reduceAdd, reduceCtorEq, and_true, true_and, and_false, false_and, false_or, or_false, c5, c6, v3, a2, List.length_cons, a3, e3, e1, e2, e4, nI_add]
          · show px_up ρ.1 218 vs.length _ 218 i = _
            rw [up_s, if_neg (by omega)]
      · cases vs with
        | nil => exact t5.elim
        | cons b vs =>
          cases vs with
          | nil => exact t5.2.elim
          | cons a vs =>
            obtain ⟨k1, k2⟩ := ctr_o w1 (by omega)
            have k3 : ctr (D j) ≠ 2006 := by
              unfold ctr
              rw [if_neg (by omega), if_neg (by omega), if_neg (by omega)]
              split
              · omega
              · rw [if_neg (by omega)]; omega
            have wk := c_worked ρ w1 w2 a b (fun q => ⟨t5.2.1 (w4 q).2, t5.1 (w4 q).1⟩)
            have a2 : nI 2000 ≤ nI (ctr (D j)) := by rw [nI_leI (by omega) (by omega)]; omega
            have a3 : ¬ nI (ctr (D j)) = nI 2006 := by rw [nI_eq (by omega) (by omega)]; exact k3
            simp only [List.length_cons] at t6 t4
            have a4 : ¬ nI (vs.length + 1 + 1) ≤ nI 1 := by rw [nI_leI (by omega) (by omega)]; omega
            have m1 : nI (vs.length + 1 + 1) + (-1) = nI (vs.length + 1) := by rw [show (-1 : Int32) = -(nI 1) from rfl, ← Int32.sub_eq_add_neg, ni_subL (by omega)]; rfl
            have m2 : nI (vs.length + 1) - nI 1 = nI vs.length := by rw [ni_subL (by omega)]; rfl
            have e1 : vp_in (nI vs.length) 64 := (vp_in_eq (by omega)).mpr (by omega)
            have e2 : (nI vs.length).toNatClampNeg = vs.length := nI_clamp (by omega)
            have e3 : vp_in (nI (vs.length + 1)) 64 := (vp_in_eq (by omega)).mpr (by omega)
            have e4 : (nI (vs.length + 1)).toNatClampNeg = vs.length + 1 := nI_clamp (by omega)
            have e5 : ρ.1 218 (vs.length + 1) = b := g2.1
            have e6 : ρ.1 218 vs.length = a := g2.2.1
            rw [eS_b w1 w2]
            refine ⟨(nI (vs.length + 1), nI (S r + j + 1), px_wi ρ 218 vs.length (bw (D j) a b)), ?_, _, rfl, fr_wi g1 _ rfl, wi_s _ _ _ _, stk_up (fun i hi => ?_) g2.2.2⟩
            · dsimp only
              unfold F_2013_48 f_2013_114 f_2013_167 f_2013_177 f_2013_185 f_2013_189
              simp only [a1, la_210, la_218, h5ρ, l0, f3ρ, l3, rc_210_2 hRρ, gd_tt, oA_arr, px_obj_s, Option.bind_some, Option.map_some, Option.bind_none, eq_self, true_or, or_true, px_av_0, px_av_1, px_av_2, px_av_10, px_av_11, bn, wi_1, wi_2, wl_1, wl_21, wl_22, wr_1, wr_21, wr_22, Sum.elim_inl, Sum.elim_inr, ↓reduceIte, Nat.reduceLT, Nat.reduceLeDiff, not_false_eq_true, not_true_eq_false, Nat.reduceEqDiff, Nat.reduceAdd, reduceCtorEq, and_true, true_and, and_false, false_and, false_or, or_false, c5, c6, v3, a2, a3, a4, List.length_cons, m1, m2, e1, e2, e3, e4, e5, e6, wk, nI_add]
            · show px_up ρ.1 218 vs.length _ 218 i = _
              rw [up_s, if_neg (by omega)]
    · obtain ⟨ρ, rfl, g1, g2⟩ := hI
      have hRρ := cR_fr g1 hR
      obtain ⟨v, w1, w2⟩ := rh_one (n := n) (B := B) (h := h) hty
      have a1 : nI (S r + M) ≤ nI (S r + M) := by rw [nI_leI (by omega) (by omega)]; omega
      have e1 : vp_in (nI 0) 64 := (vp_in_eq (by omega)).mpr (by omega)
      have e2 : (nI 0).toNatClampNeg = 0 := nI_clamp (by omega)
      rw [w1] at g2
      have e3 : ρ.1 218 0 = v := g2.1
      refine ⟨(mb (rh n B h D M), ρ), ?_, ρ, rfl, g1⟩
      have e : rh n B h D M = decide (v = nI 1) := by unfold rh; rw [w1]; rfl
      rw [e, w1]
      dsimp only [List.length_cons, List.length_nil]
      have a3 : ¬ nI (0 + 1) ≤ nI 0 := by decide
      unfold F_2013_48 f_2013_213
      rcases w2 with rfl | rfl
      · have z : ¬ (nI 0 = nI 1) := by decide
        simp only [a1, a3, la_210, la_218, rc_210_2 hRρ, gd_tt, oA_arr, px_obj_s, Option.bind_some, Option.map_some, Option.bind_none, eq_self, true_or, or_true, px_av_0, px_av_1, px_av_2, px_av_10, px_av_11, bn, wi_1, wi_2, wl_1, wl_21, wl_22, wr_1, wr_21, wr_22, Sum.elim_inl, Sum.elim_inr, ↓reduceIte, Nat.reduceLT, Nat.reduceLeDiff, not_false_eq_true, not_true_eq_false, Nat.reduceEqDiff, Nat.reduceAdd, reduceCtorEq, and_true, true_and, and_false, false_and, false_or, or_false, e1, e2, e3, z, decide_false, mb_f0]
      · have z : ¬ (nI 1 = nI 0) := by decide
        simp only [a1, a3, la_210, la_218, rc_210_2 hRρ, gd_tt, oA_arr, px_obj_s, Option.bind_some, Option.map_some, Option.bind_none, eq_self, true_or, or_true, px_av_0, px_av_1, px_av_2, px_av_10, px_av_11, bn, wi_1, wi_2, wl_1, wl_21, wl_22, wr_1, wr_21, wr_22, Sum.elim_inl, Sum.elim_inr, ↓reduceIte, Nat.reduceLT, Nat.reduceLeDiff, not_false_eq_true, not_true_eq_false, Nat.reduceEqDiff, Nat.reduceAdd, reduceCtorEq, and_true, true_and, and_false, false_and, false_or, or_false, e1, e2, e3, z, decide_true, mb_t1]
  obtain ⟨b, q1, υ, rfl, q2⟩ := key
  refine ⟨υ, ?_, q2⟩
  have b1 : ¬ nI r < nI 0 := by rw [nI_ltI (by omega) (by omega)]; omega
  have b2 : nI r < nI 6 := by rw [nI_ltI (by omega) (by omega)]; omega
  have b3 : ¬ nI 900 < nI (S r + M) := by rw [nI_ltI (by omega) (by omega)]; omega
  have b4 : ¬ nI (S r) < nI 0 := by rw [nI_ltI (by omega) (by omega)]; omega
  have c1 : vp_in (nI (r + 1)) 7 := (vp_in_eq (by omega)).mpr (by omega)
  have c2 : (nI (r + 1)).toNatClampNeg = r + 1 := nI_clamp (by omega)
  have c3 : vp_in (nI r) 7 := (vp_in_eq (by omega)).mpr (by omega)
  have c4 : (nI r).toNatClampNeg = r := nI_clamp (by omega)
  unfold f_2013 f_2013_30
  simp only [b1, b2, la_210, h5, l0, f1, l1, gd_tt, oA_arr, px_obj_s, Option.bind_some, Option.map_some, Option.bind_none, eq_self, true_or, or_true, px_av_0, px_av_1, px_av_2, px_av_10, px_av_11, bn, wi_1, wi_2, wl_1, wl_21, wl_22, wr_1, wr_21, wr_22, Sum.elim_inl, Sum.elim_inr, ↓reduceIte, Nat.reduceLT, Nat.reduceLeDiff, not_false_eq_true, not_true_eq_false, Nat.reduceEqDiff, Nat.reduceAdd, reduceCtorEq, and_true, true_and, and_false, false_and, false_or, or_false, nI_add, c1, c2, c3, c4, s1, s2, b3, b4, q1]
end
