/-! cure: class and model alike -/
theorem bc_step (V i : Nat) : bc (i + 1) V = bc i V + (V.testBit i).toNat := by rw [bc_sm, bc_sm]; rfl
theorem bc_gap {V lo hi : Nat} (hle : lo ≤ hi) (h : ∀ i, lo ≤ i → i < hi → V.testBit i = false) : bc hi V = bc lo V := by
  induction hi with
  | zero => have : lo = 0 := by omega
            rw [this]
  | succ hi ih =>
    by_cases q : lo = hi + 1
    · rw [q]
    · rw [bc_step, h hi (by omega) (by omega), ih (by omega) (fun i h1 h2 => h i h1 (by omega))]
      rfl
theorem bc_up {V lo hi : Nat} (hle : lo ≤ hi) : bc lo V ≤ bc hi V := by
  induction hi with
  | zero => have : lo = 0 := by omega
            rw [this]; exact Nat.le_refl _
  | succ hi ih =>
    by_cases q : lo = hi + 1
    · rw [q]; exact Nat.le_refl _
    · rw [bc_step]; have := ih (by omega); omega
theorem lt_bit {V W : Nat} (i : Nat) (h1 : V.testBit i = false) (h2 : W.testBit i = true) (h3 : ∀ j, i < j → V.testBit j = W.testBit j) : V < W := by
  have e : V / 2 ^ (i + 1) = W / 2 ^ (i + 1) := by
    rw [← Nat.shiftRight_eq_div_pow, ← Nat.shiftRight_eq_div_pow]
    apply Nat.eq_of_testBit_eq
    intro j
    rw [Nat.testBit_shiftRight, Nat.testBit_shiftRight]
    exact h3 _ (by omega)
  have a1 : V % 2 ^ (i + 1) < 2 ^ i := lt_tb (fun j hj => by
    rw [Nat.testBit_mod_two_pow, Bool.and_eq_true, decide_eq_true_eq] at hj
    by_cases q : j = i
    · rw [q, h1] at hj; cases hj.2
    · omega)
  have a2 : 2 ^ i ≤ W % 2 ^ (i + 1) := by
    apply Classical.byContradiction
    intro q
    have : (W % 2 ^ (i + 1)).testBit i = true := by rw [Nat.testBit_mod_two_pow, h2, decide_eq_true (by omega)]; rfl
    have := tb_lt (show W % 2 ^ (i + 1) < 2 ^ i by omega) this
    omega
  have d1 := Nat.div_add_mod V (2 ^ (i + 1))
  have d2 := Nat.div_add_mod W (2 ^ (i + 1))
  rw [e] at d1
  omega
/-- the k-th bit from above -/
def kth (V k i : Nat) : Prop := i < 55 ∧ V.testBit i = true ∧ bc 55 V = bc (i + 1) V + k
theorem kth_uniq {V k i j : Nat} (h1 : kth V k i) (h2 : kth V k j) : i = j := by
  obtain ⟨a1, a2, a3⟩ := h1
  obtain ⟨b1, b2, b3⟩ := h2
  rcases Nat.lt_trichotomy i j with q | q | q
  · have e1 := bc_step V j
    rw [b2] at e1
    have e2 := bc_up (V := V) (show i + 1 ≤ j by omega)
    have : (true : Bool).toNat = 1 := rfl
    omega
  · exact q
  · have e1 := bc_step V i
    rw [a2] at e1
    have e2 := bc_up (V := V) (show j + 1 ≤ i by omega)
    have : (true : Bool).toNat = 1 := rfl
    omega
/-- the next bit below -/
theorem kth_next {V k thr : Nat} (ht : thr ≤ 55) (h55 : ∀ i, V.testBit i = true → i < 55) (hc : bc 55 V = bc thr V + k) (hk : k < bc 55 V) : ∃ i, i < thr ∧ kth V k i ∧ ∀ j, i < j → j < thr → V.testBit j = false := by
  have hpos : ∃ i, i < thr ∧ V.testBit i = true := by
    apply Classical.byContradiction
    intro hno
    have := bc_gap (V := V) (lo := 0) (hi := thr) (Nat.zero_le _) (fun i _ hi => Bool.eq_false_iff.mpr (fun q => hno ⟨i, hi, q⟩))
    have z : bc 0 V = 0 := rfl
    omega
  obtain ⟨m, ⟨i, h1, h2, rfl⟩, h3⟩ := exmin (P := fun m => ∃ i, i < thr ∧ V.testBit i = true ∧ thr - i = m) (by obtain ⟨i, h1, h2⟩ := hpos; exact ⟨_, i, h1, h2, rfl⟩)
  have hno : ∀ j, i < j → j < thr → V.testBit j = false := fun j hj1 hj2 => Bool.eq_false_iff.mpr (fun q => h3 (thr - j) (by omega) ⟨j, hj2, q, rfl⟩)
  refine ⟨i, h1, ⟨by omega, h2, ?_⟩, hno⟩
  rw [hc, bc_gap (V := V) (lo := i + 1) (hi := thr) (by omega) (fun j hj1 hj2 => hno j (by omega) hj2)]
section
variable {σ τ : px_M} {t n : Nat} {B : Nat → Nat} {f : Int}
/-- the best cure -/
def isB (n : Nat) (B : Nat → Nat) (k V : Nat) : Prop := cw n B k (-1) V ∧ (∀ j, j < k → ¬ cu n B j (-1)) ∧ ∀ w, cw n B k (-1) w → w ≤ V
theorem isB_bc {k V : Nat} (h : isB n B k V) : bc 55 V = k := by
  have h1 := h.1.2.1
  apply Classical.byContradiction
  intro q
  exact h.2.1 (bc 55 V) (by omega) ⟨V, h.1.1, Nat.le_refl _, h.1.2.2⟩
theorem SC_KH : ∀ l j, SC l j = false → KH l j = false := fun l j h => by
  simp only [SC, Bool.and_eq_false_iff, decide_eq_false_iff_not] at h
  cases hq : KH l j with
  | false => rfl
  | true => simp only [KH, Bool.or_eq_true, Bool.and_eq_true, beq_iff_eq] at hq; omega
theorem c_walls (hR : cR σ.2.2) (hc : ct σ 111 n B) : ∃ r υ, f_5002 tT σ 200 111 = some (nI r, υ) ∧ fr SC σ υ ∧ cR υ.2.2 ∧ ((r = 7 ∧ ∀ j, j ≤ 6 → ¬ cu n B j (-1)) ∨ (r ≤ 6 ∧ ∃ V, υ.2.1 200 1 = lN V ∧ isB n B r V ∧ ct υ 201 n B)) := by
  obtain ⟨ρ, q1, q2, q3⟩ := c_become (t := 201) hc la_201 la_202 (rc_201_1 hR) (by decide) (by decide) (by decide)
  have hRρ := cR_fr q2 hR
  have w0 : fr KH σ ρ := fr_mono q2 (fun l j q => by
    simp only [KH, Bool.or_eq_false_iff, beq_eq_false_iff_ne] at q
    exact tw2_n q.1.1 q.1.2)
  have key : ∃ b, f_5002_10 tT 200 (nI 0) ρ = some b ∧ ∃ r υ, b = (nI r, υ) ∧ fr KH σ υ ∧ ((r = 7 ∧ ∀ j, j ≤ 6 → ¬ cu n B j (-1)) ∨ (r ≤ 6 ∧ ∃ V, υ.2.1 200 1 = lN V ∧ isB n B r V ∧ ct υ 201 n B)) := by
    unfold f_5002_10
    refine lp_rel (F := fun s : Int32 × px_M => F_5002_10 tT 200 s.1 s.2) (fun k q => ∃ ω, q = (nI k, ω) ∧ fr KH σ ω ∧ ct ω 201 n B ∧ ∀ j, j < k → ¬ cu n B j (-1)) _ 7 (fun k q hk hI => ?_) 0 (nI 0, ρ) (by omega) ⟨ρ, rfl, w0, q3, fun j hj => by omega⟩
    obtain ⟨ω, rfl, g1, g2, g3⟩ := hI
    have hRω := cR_fr g1 hR
    by_cases h7 : k = 7
    · subst h7
      refine Or.inr ⟨(nI 7, ω), ?_, 7, ω, rfl, g1, Or.inl ⟨rfl, fun j hj => g3 j (by omega)⟩⟩
      dsimp only
      unfold F_5002_10
      rw [if_pos (by decide)]
    · have a1 : ¬ nI 6 < nI k := by rw [nI_ltI (by omega) (by omega)]; omega
      obtain ⟨ψ, hψ⟩ : ∃ ψ, px_wl ω 200 1 (-1) = ψ := ⟨_, rfl⟩
      have u1 : fr KH ω ψ := by rw [← hψ]; exact fr_wl (fr_rf _ _) _ rfl
      have u2 : ct ψ 201 n B := by rw [← hψ]; exact g2
      obtain ⟨υ, M, S, y1, y2, y3, y4, y5, y6, y7, y8⟩ := c_heal (n := n) k 24 (by omega) (by omega) ψ B 0 none (cR_fr u1 hRω) u2 (by decide) (by rw [← hψ, wl_21]; exact px_up_s _ _ _ _) (fun v hv => by cases hv)
      cases M with
      | none =>
        have z : oL none = (-1 : Int64) := rfl
        rw [z] at y2
        have hno : ¬ cu n B k (-1) := fun ⟨w, hw⟩ => by
          obtain ⟨w', -, h2, -⟩ := y5 w hw
          obtain ⟨u, hu, -⟩ := y3.1 _ h2
          cases hu
        refine Or.inl ⟨(nI (k + 1), υ), ?_, by omega, υ, rfl, fr_tr g1 (fr_tr u1 y6), y7, fun j hj => ?_⟩
        · dsimp only
          unfold F_5002_10
          simp only [a1, la_200, gd_tt, oA_arr, px_obj_s, Option.bind_some, Option.map_some, Option.bind_none, eq_self, true_or, or_true, px_av_0, px_av_1, px_av_2, px_av_10, px_av_11, bn, wi_1, wi_2, wl_1, wl_21, wl_22, wr_1, wr_21, wr_22, Sum.elim_inl, Sum.elim_inr, ↓reduceIte, Nat.reduceLT, Nat.reduceLeDiff, not_false_eq_true, not_true_eq_false, Nat.reduceEqDiff, Nat.reduceAdd, reduceCtorEq, and_true, true_and, and_false, false_and, false_or, or_false, hψ, y1, y2, nI_add]
        · by_cases q : j = k
          · subst q; exact hno
          · exact g3 j (by omega)
      | some V =>
        have z : oL (some V) = lN V := rfl
        rw [z] at y2
        have hVb := y8 V rfl
        have zn : ¬ lN V = -1 := fun q => by
          have := congrArg Int64.toInt q
          rw [pf_lI (by omega)] at this
          have e : (-1 : Int64).toInt = -1 := by decide
          omega
        have hSV : S V := by
          rcases y3.2.2 V rfl with q | q
          · cases q
          · exact q
        obtain ⟨w, hw1, hw2⟩ := y4 V hSV
        rw [Nat.zero_or] at hw2
        refine Or.inr ⟨(nI k, υ), ?_, k, υ, rfl, fr_tr g1 (fr_tr u1 y6), Or.inr ⟨by omega, V, y2, ⟨by rw [hw2]; exact hw1, g3, fun w2 hw3 => ?_⟩, y7⟩⟩
        · dsimp only
          unfold F_5002_10
          simp only [a1, la_200, gd_tt, oA_arr, px_obj_s, Option.bind_some, Option.map_some, Option.bind_none, eq_self, true_or, or_true, px_av_0, px_av_1, px_av_2, px_av_10, px_av_11, bn, wi_1, wi_2, wl_1, wl_21, wl_22, wr_1, wr_21, wr_22, Sum.elim_inl, Sum.elim_inr, ↓reduceIte, Nat.reduceLT, Nat.reduceLeDiff, not_false_eq_true, not_true_eq_false, Nat.reduceEqDiff, Nat.reduceAdd, reduceCtorEq, and_true, true_and, and_false, false_and, false_or, or_false, hψ, y1, y2, zn]
        · obtain ⟨w', h1, h2, h3⟩ := y5 w2 hw3
          have hbw : k ≤ bc 55 w' := by
            apply Classical.byContradiction
            intro q
            exact g3 (bc 55 w') (by omega) ⟨w', h1.1, Nat.le_refl _, h1.2.2⟩
          have e := bc_ss (w := w2) (v := w') (fun j hj => drs_55 hw3.1 hj) h3 (by have := hw3.2.1; omega)
          rw [e, Nat.zero_or] at h2
          obtain ⟨u, hu, hle⟩ := y3.1 _ h2
          cases hu
          exact hle
  obtain ⟨b, p1, r, υ, rfl, p2, p3⟩ := key
  refine ⟨r, υ, ?_, fr_mono p2 SC_KH, cR_fr p2 hR, p3⟩
  simp only [f_5002, la_200, la_201, rc_200_0 hR, gd_tt, oA_arr, px_obj_s, Option.bind_some, Option.map_some, Option.bind_none, eq_self, true_or, or_true, px_av_0, px_av_1, px_av_2, px_av_10, px_av_11, bn, wi_1, wi_2, wl_1, wl_21, wl_22, wr_1, wr_21, wr_22, Sum.elim_inl, Sum.elim_inr, ↓reduceIte, Nat.reduceLT, Nat.reduceLeDiff, not_false_eq_true, not_true_eq_false, Nat.reduceEqDiff, Nat.reduceAdd, reduceCtorEq, and_true, true_and, and_false, false_and, false_or, or_false, q1, p1]
theorem lN_tst {V a b : Nat} (hV : V < 2 ^ 55) : (lN V &&& lN (2 ^ qd a b) = lN 0) ↔ V.testBit (qd a b) = false := by
  have e : lN V &&& lN (2 ^ qd a b) = lN (V &&& 2 ^ qd a b) := by
    apply Int64.toBitVec_inj.mp
    rw [Int64.toBitVec_and]
    show BitVec.ofNat 64 V &&& BitVec.ofNat 64 (2 ^ qd a b) = BitVec.ofNat 64 (V &&& 2 ^ qd a b)
    rw [BitVec.ofNat_and]
  have hl : V &&& 2 ^ qd a b < 2 ^ 63 := Nat.lt_of_le_of_lt Nat.and_le_left (by omega)
  rw [e, ← tb_and0]
  exact ⟨fun q => lN_inj hl (by decide) q, fun q => by rw [q]⟩
/-- the k-th wall -/
theorem c_wallAt (hR : cR σ.2.2) (hc : ct σ 201 n B) {V k : Nat} (hk : k ≤ 6) (hV : σ.2.1 200 1 = lN V) (hd : drs n B (-1) V) : ∃ v, f_5006 tT σ 200 (nI k) = some v ∧ ((v = -1 ∧ bc 55 V ≤ k) ∨ ∃ a b, a < b ∧ b < n ∧ v = nI (100 * a + b) ∧ kth V k (qd a b)) := by
  have hw := hc.2.2.2.1
  have hn := hw.1
  have e1 := hc.2.2.2.2.1
  have h55 : ∀ i, V.testBit i = true → i < 55 := fun i hi => drs_55 hd hi
  have hVb : V < 2 ^ 55 := lt_tb h55
  unfold f_5006 f_5006_4
  refine lp_rel (F := fun s : Int32 × Int32 => F_5006_4 tT σ 200 s.1 s.2) (fun a q => ∃ thr, q = (nI (k - (bc 55 V - bc thr V)), nI a) ∧ thr ≤ 55 ∧ bc 55 V - bc thr V ≤ k ∧ ∀ x y, x < y → y < n → V.testBit (qd x y) = true → (qd x y < thr ↔ a ≤ x)) _ n (fun a q ha hI => ?_) 0 (nI k, nI 0) (by omega) ⟨55, by rw [Nat.sub_self, Nat.sub_zero], Nat.le_refl _, by omega, fun x y _ _ h => ⟨fun _ => Nat.zero_le _, fun _ => h55 _ h⟩⟩
  obtain ⟨thr, rfl, g1, g2, g3⟩ := hI
  by_cases han : a = n
  · subst han
    have hz : bc thr V = 0 := by
      have := bc_gap (V := V) (lo := 0) (hi := thr) (Nat.zero_le _) (fun i _ hi => Bool.eq_false_iff.mpr (fun q => by
        obtain ⟨x, y, z1, z2, -, z4, -⟩ := hd i q
        rw [z4] at q hi
        have := (g3 x y z1 z2 q).mp hi
        omega))
      exact this
    refine Or.inr ⟨-1, ?_, Or.inl ⟨rfl, by omega⟩⟩
    have a1 : nI a ≤ nI a := by rw [nI_leI (by omega) (by omega)]; omega
    dsimp only
    unfold F_5006_4
    simp only [la_200, la_201, rc_200_0 hR, e1, a1, gd_tt, oA_arr, px_obj_s, Option.bind_some, Option.map_some, Option.bind_none, eq_self, true_or, or_true, px_av_0, px_av_1, px_av_2, px_av_10, px_av_11, bn, wi_1, wi_2, wl_1, wl_21, wl_22, wr_1, wr_21, wr_22, Sum.elim_inl, Sum.elim_inr, ↓reduceIte, Nat.reduceLT, Nat.reduceLeDiff, not_false_eq_true, not_true_eq_false, Nat.reduceEqDiff, Nat.reduceAdd, reduceCtorEq, and_true, true_and, and_false, false_and, false_or, or_false]
  · have ha' : a < n := by omega
    have inner : ∃ s, f_5006_20 tT σ 200 (nI a) (nI (k - (bc 55 V - bc thr V))) (nI (a + 1)) = some s ∧ ((∃ thr, s = .inl (nI (k - (bc 55 V - bc thr V)), nI (a + 1)) ∧ thr ≤ 55 ∧ bc 55 V - bc thr V ≤ k ∧ ∀ x y, x < y → y < n → V.testBit (qd x y) = true → (qd x y < thr ↔ a + 1 ≤ x)) ∨ (∃ b, a < b ∧ b < n ∧ s = .inr (nI (100 * a + b)) ∧ kth V k (qd a b))) := by
      unfold f_5006_20
      refine lp_rel (F := fun s : Int32 × Int32 => F_5006_20 tT σ 200 (nI a) s.1 s.2) (fun j q => ∃ thr, q = (nI (k - (bc 55 V - bc thr V)), nI (a + 1 + j)) ∧ thr ≤ 55 ∧ bc 55 V - bc thr V ≤ k ∧ ∀ x y, x < y → y < n → V.testBit (qd x y) = true → (qd x y < thr ↔ (a < x ∨ (x = a ∧ a + 1 + j ≤ y)))) _ (n - 1 - a) (fun j q hj hI => ?_) 0 (nI (k - (bc 55 V - bc thr V)), nI (a + 1)) (by omega) ⟨thr, rfl, g1, g2, fun x y h1 h2 h3 => by rw [g3 x y h1 h2 h3]; omega⟩
      obtain ⟨thr, rfl, g1, g2, g3⟩ := hI
      by_cases hjn : j = n - 1 - a
      · subst hjn
        refine Or.inr ⟨.inl (nI (k - (bc 55 V - bc thr V)), nI (a + 1)), ?_, Or.inl ⟨thr, rfl, g1, g2, fun x y h1 h2 h3 => by rw [g3 x y h1 h2 h3]; omega⟩⟩
        have a1 : nI n ≤ nI (a + 1 + (n - 1 - a)) := by rw [nI_leI (by omega) (by omega)]; omega
        dsimp only
        unfold F_5006_20
        simp only [la_200, la_201, rc_200_0 hR, e1, a1, gd_tt, oA_arr, px_obj_s, Option.bind_some, Option.map_some, Option.bind_none, eq_self, true_or, or_true, px_av_0, px_av_1, px_av_2, px_av_10, px_av_11, bn, wi_1, wi_2, wl_1, wl_21, wl_22, wr_1, wr_21, wr_22, Sum.elim_inl, Sum.elim_inr, ↓reduceIte, Nat.reduceLT, Nat.reduceLeDiff, not_false_eq_true, not_true_eq_false, Nat.reduceEqDiff, Nat.reduceAdd, reduceCtorEq, and_true, true_and, and_false, false_and, false_or, or_false, nI_add]
      · generalize hb : a + 1 + j = b at g3
        have hbn : b < n := by omega
        have hab : a < b := by omega
        have a1 : ¬ nI n ≤ nI b := by rw [nI_leI (by omega) (by omega)]; omega
        have bo := c_bitOf σ hab (show b < 11 by omega)
        have tst := lN_tst (a := a) (b := b) hVb
        have hbb : a + 1 + (j + 1) = b + 1 := by omega
        cases hbit : V.testBit (qd a b) with
        | false =>
          have tst' := tst.mpr hbit
          refine Or.inl ⟨(nI (k - (bc 55 V - bc thr V)), nI (b + 1)), ?_, by omega, thr, by rw [hbb], g1, g2, fun x y h1 h2 h3 => ?_⟩
          · dsimp only
            unfold F_5006_20 f_5006_66
            simp only [la_200, la_201, rc_200_0 hR, e1, a1, gd_tt, oA_arr, px_obj_s, Option.bind_some, Option.map_some, Option.bind_none, eq_self, true_or, or_true, px_av_0, px_av_1, px_av_2, px_av_10, px_av_11, bn, wi_1, wi_2, wl_1, wl_21, wl_22, wr_1, wr_21, wr_22, Sum.elim_inl, Sum.elim_inr, ↓reduceIte, Nat.reduceLT, Nat.reduceLeDiff, not_false_eq_true, not_true_eq_false, Nat.reduceEqDiff, Nat.reduceAdd, reduceCtorEq, and_true, true_and, and_false, false_and, false_or, or_false, bo, hV, tst', nI_add]
          · rw [g3 x y h1 h2 h3]
            have hne : ¬ (x = a ∧ y = b) := fun q => by rw [q.1, q.2, hbit] at h3; cases h3
            omega
        | true =>
          have tst' : ¬ (lN V &&& lN (2 ^ qd a b) = lN 0) := fun q => by rw [tst, hbit] at q; cases q
          have hlt : qd a b < thr := (g3 a b hab hbn hbit).mpr (Or.inr ⟨rfl, by omega⟩)
          have gap : bc thr V = bc (qd a b + 1) V := bc_gap (by omega) (fun i h1 h2 => Bool.eq_false_iff.mpr (fun q => by
            obtain ⟨x, y, z1, z2, -, z4, -⟩ := hd i q
            rw [z4] at q h1 h2
            have o := qd_ord x (by omega) y (by omega) z1 a (by omega) b (by omega) hab
            have := (g3 x y z1 z2 q).mp h2
            omega))
          have stp1 := bc_step V (qd a b)
          rw [hbit] at stp1
          have t1 : (true : Bool).toNat = 1 := rfl
          have up1 := bc_up (V := V) (show thr ≤ 55 from g1)
          by_cases h0 : k - (bc 55 V - bc thr V) = 0
          · have zz : (nI (k - (bc 55 V - bc thr V)) = nI 0) = True := eq_true (by rw [h0])
            refine Or.inr ⟨.inr (nI (100 * a + b)), ?_, Or.inr ⟨b, hab, hbn, rfl, qd_lt a b, hbit, by omega⟩⟩
            dsimp only
            unfold F_5006_20
            simp only [la_200, la_201, rc_200_0 hR, e1, a1, gd_tt, oA_arr, px_obj_s, Option.bind_some, Option.map_some, Option.bind_none, eq_self, true_or, or_true, px_av_0, px_av_1, px_av_2, px_av_10, px_av_11, bn, wi_1, wi_2, wl_1, wl_21, wl_22, wr_1, wr_21, wr_22, Sum.elim_inl, Sum.elim_inr, ↓reduceIte, Nat.reduceLT, Nat.reduceLeDiff, not_false_eq_true, not_true_eq_false, Nat.reduceEqDiff, Nat.reduceAdd, reduceCtorEq, and_true, true_and, and_false, false_and, false_or, or_false, bo, hV, tst', zz, pk_mul, nI_add]
          · have zz : ¬ nI (k - (bc 55 V - bc thr V)) = nI 0 := by rw [nI_eq (by omega) (by omega)]; exact h0
            have em : nI (k - (bc 55 V - bc thr V)) + (-1) = nI (k - (bc 55 V - bc (qd a b) V)) := by
              rw [show (-1 : Int32) = -(nI 1) from rfl, ← Int32.sub_eq_add_neg, ni_subL (by omega)]
              congr 1
              omega
            refine Or.inl ⟨(nI (k - (bc 55 V - bc (qd a b) V)), nI (b + 1)), ?_, by omega, qd a b, by rw [hbb], by have := qd_lt a b; omega, by omega, fun x y h1 h2 h3 => ?_⟩
            · dsimp only
              unfold F_5006_20 f_5006_66
              simp only [la_200, la_201, rc_200_0 hR, e1, a1, gd_tt, oA_arr, px_obj_s, Option.bind_some, Option.map_some, Option.bind_none, eq_self, true_or, or_true, px_av_0, px_av_1, px_av_2, px_av_10, px_av_11, bn, wi_1, wi_2, wl_1, wl_21, wl_22, wr_1, wr_21, wr_22, Sum.elim_inl, Sum.elim_inr, ↓reduceIte, Nat.reduceLT, Nat.reduceLeDiff, not_false_eq_true, not_true_eq_false, Nat.reduceEqDiff, Nat.reduceAdd, reduceCtorEq, and_true, true_and, and_false, false_and, false_or, or_false, bo, hV, tst', zz, em, nI_add]
            · rw [← qd_ord a (by omega) b (by omega) hab x (by omega) y (by omega) h1]
              omega
    obtain ⟨s, u1, u2⟩ := inner
    have a1 : ¬ nI n ≤ nI a := by rw [nI_leI (by omega) (by omega)]; omega
    have hF : F_5006_4 tT σ 200 (nI (k - (bc 55 V - bc thr V))) (nI a) = some s := by
      unfold F_5006_4
      simp only [la_200, la_201, rc_200_0 hR, e1, a1, gd_tt, oA_arr, px_obj_s, Option.bind_some, Option.map_some, Option.bind_none, eq_self, true_or, or_true, px_av_0, px_av_1, px_av_2, px_av_10, px_av_11, bn, wi_1, wi_2, wl_1, wl_21, wl_22, wr_1, wr_21, wr_22, Sum.elim_inl, Sum.elim_inr, ↓reduceIte, Nat.reduceLT, Nat.reduceLeDiff, not_false_eq_true, not_true_eq_false, Nat.reduceEqDiff, Nat.reduceAdd, reduceCtorEq, and_true, true_and, and_false, false_and, false_or, or_false, nI_add, u1]
    rcases u2 with ⟨thr', rfl, v1, v2, v3⟩ | ⟨b, v1, v2, rfl, v3⟩
    · exact Or.inl ⟨_, hF, by omega, thr', rfl, v1, v2, v3⟩
    · exact Or.inr ⟨_, hF, Or.inr ⟨a, b, v1, v2, rfl, v3⟩⟩
/-! the model: doors taken one by one -/
def CKt (l j : Nat) : Bool := CK l j || tn l j
theorem e_take (hm : mo σ n B) {dd more : Nat} (hdd : dd < 2 ^ 30) (hmr : more ≤ 6) : (∃ υ a c, f_118 tT σ 0 (nI dd) (nI more) = some (nI 1, υ) ∧ dd = 100 * a + c ∧ a < c ∧ c < n ∧ (B a).testBit c = true ∧ cu n (wl B a c) more dd ∧ fr CKt σ υ ∧ mo υ n (wl B a c)) ∨ (∃ υ, f_118 tT σ 0 (nI dd) (nI more) = some (nI 0, υ) ∧ fk CK σ υ ∧ ∀ a c, dd = 100 * a + c → a < c → c < n → (B a).testBit c = true → ¬ cu n (wl B a c) more dd) := by
  have hw := hm.2.1
  have hn := hw.1
  have e1 : nI dd / nI 100 = nI (dd / 100) := ni_divL (by omega) (by decide) (by decide)
  have e2 : nI dd - nI (dd / 100 * 100) = nI (dd % 100) := by rw [ni_subL (by omega)]; congr 1; omega
  have no : ∀ {υ : px_M}, f_118 tT σ 0 (nI dd) (nI more) = some (nI 0, υ) → fk CK σ υ → ¬ (dd / 100 < dd % 100 ∧ dd % 100 < n ∧ (B (dd / 100)).testBit (dd % 100) = true ∧ cu n (wl B (dd / 100) (dd % 100)) more dd) → (∃ υ, f_118 tT σ 0 (nI dd) (nI more) = some (nI 0, υ) ∧ fk CK σ υ ∧ ∀ a c, dd = 100 * a + c → a < c → c < n → (B a).testBit c = true → ¬ cu n (wl B a c) more dd) := fun {υ} h1 h2 h3 => ⟨υ, h1, h2, fun a c k1 k2 k3 k4 k5 => h3 (by
    have k6 : dd / 100 = a := by omega
    have k7 : dd % 100 = c := by omega
    rw [k6, k7]; exact ⟨k2, k3, k4, k5⟩)⟩
  by_cases hac : dd / 100 < dd % 100
  · have a1 : ¬ nI (dd % 100) ≤ nI (dd / 100) := by rw [nI_leI (by omega) (by omega)]; omega
    by_cases hcn : dd % 100 < n
    · have i1 := e_hs hm hcn
      have n1 := e_near hm (show dd / 100 < 11 by omega)
      have hBa := wf_2048 hw (dd / 100)
      have i2 := e_isIn σ (s := B (dd / 100)) (j := dd % 100) (by omega) (by omega)
      have l3 : (nI (B (dd / 100))).toInt64 = lN (B (dd / 100)) := nI_l (by omega)
      cases hb : (B (dd / 100)).testBit (dd % 100) with
      | false =>
        rw [hb, mb_f0] at i2
        refine Or.inr (no (υ := σ) ?_ (fk_rf _ _) (fun q => by rw [hb] at q; cases q.2.2.1))
        simp only [f_118, f_118_5, f_118_11, f_118_41, n100, e1, pk_mul, e2, a1, la_0, gd_tt, oA_arr, px_obj_s, Option.bind_some, Option.map_some, Option.bind_none, eq_self, true_or, or_true, px_av_0, px_av_1, px_av_2, px_av_10, px_av_11, bn, wi_1, wi_2, wl_1, wl_21, wl_22, wr_1, wr_21, wr_22, Sum.elim_inl, Sum.elim_inr, ↓reduceIte, Nat.reduceLT, Nat.reduceLeDiff, not_false_eq_true, not_true_eq_false, Nat.reduceEqDiff, Nat.reduceAdd, reduceCtorEq, and_true, true_and, and_false, false_and, false_or, or_false, i1, n10, n1, l3, i2]
      | true =>
        rw [hb, mb_t1] at i2
        obtain ⟨ρ1, y1, y2, y3⟩ := e_walls hm (show dd / 100 < n by omega) hcn (show dd / 100 ≠ dd % 100 by omega)
        obtain ⟨ρ2, z1, z2⟩ := e_cure (n := n) (f := (dd : Int)) more 24 (by omega) ρ1 (wl B (dd / 100) (dd % 100)) (nI dd) y3 (nI_toInt (by omega)) hmr
        have m2 := mo_fk z2 y3
        have wy : fr CKt σ ρ1 := fr_mono y2 (fun l j q => by simp only [CKt, Bool.or_eq_false_iff] at q; exact q.2)
        cases hcb : cub n (wl B (dd / 100) (dd % 100)) more dd with
        | true =>
          rw [hcb, mb_t1] at z1
          refine Or.inl ⟨ρ2, dd / 100, dd % 100, ?_, by omega, hac, hcn, hb, cub_t.mp hcb, fr_tr wy z2.1, m2⟩
          simp only [f_118, f_118_5, f_118_11, f_118_43, n100, e1, pk_mul, e2, a1, la_0, gd_tt, oA_arr, px_obj_s, Option.bind_some, Option.map_some, Option.bind_none, eq_self, true_or, or_true, px_av_0, px_av_1, px_av_2, px_av_10, px_av_11, bn, wi_1, wi_2, wl_1, wl_21, wl_22, wr_1, wr_21, wr_22, Sum.elim_inl, Sum.elim_inr, ↓reduceIte, Nat.reduceLT, Nat.reduceLeDiff, not_false_eq_true, not_true_eq_false, Nat.reduceEqDiff, Nat.reduceAdd, reduceCtorEq, and_true, true_and, and_false, false_and, false_or, or_false, i1, n10, n1, l3, i2, y1, z1]
        | false =>
          rw [hcb, mb_f0] at z1
          obtain ⟨ρ3, x1, x2, x3⟩ := e_joins m2 (show dd / 100 < n by omega) hcn (show dd / 100 ≠ dd % 100 by omega)
          rw [jn_wl hw (by omega) hb] at x3
          refine Or.inr (no (υ := ρ3) ?_ (fk_mo (fr_tr wy (fr_tr z2.1 (fr_mono x2 (fun l j q => by simp only [Bool.or_eq_false_iff] at q; exact q.2)))) (fun _ => rfl) hm x3) (fun q => by rw [cub_t.mpr q.2.2.2] at hcb; cases hcb))
          simp only [f_118, f_118_5, f_118_11, f_118_43, f_118_71, n100, e1, pk_mul, e2, a1, la_0, gd_tt, oA_arr, px_obj_s, Option.bind_some, Option.map_some, Option.bind_none, eq_self, true_or, or_true, px_av_0, px_av_1, px_av_2, px_av_10, px_av_11, bn, wi_1, wi_2, wl_1, wl_21, wl_22, wr_1, wr_21, wr_22, Sum.elim_inl, Sum.elim_inr, ↓reduceIte, Nat.reduceLT, Nat.reduceLeDiff, not_false_eq_true, not_true_eq_false, Nat.reduceEqDiff, Nat.reduceAdd, reduceCtorEq, and_true, true_and, and_false, false_and, false_or, or_false, i1, n10, n1, l3, i2, y1, z1, rm_0_1 m2.1, x1]
    · have i1 := e_hs0 hm (v := nI (dd % 100)) (by rw [nI_toInt (by omega)]; omega)
      refine Or.inr (no (υ := σ) ?_ (fk_rf _ _) (fun q => hcn q.2.1))
      simp only [f_118, f_118_5, f_118_11, f_118_41, n100, e1, pk_mul, e2, a1, la_0, gd_tt, oA_arr, px_obj_s, Option.bind_some, Option.map_some, Option.bind_none, eq_self, true_or, or_true, px_av_0, px_av_1, px_av_2, px_av_10, px_av_11, bn, wi_1, wi_2, wl_1, wl_21, wl_22, wr_1, wr_21, wr_22, Sum.elim_inl, Sum.elim_inr, ↓reduceIte, Nat.reduceLT, Nat.reduceLeDiff, not_false_eq_true, not_true_eq_false, Nat.reduceEqDiff, Nat.reduceAdd, reduceCtorEq, and_true, true_and, and_false, false_and, false_or, or_false, i1]
  · have a1 : nI (dd % 100) ≤ nI (dd / 100) := by rw [nI_leI (by omega) (by omega)]; omega
    refine Or.inr (no (υ := σ) ?_ (fk_rf _ _) (fun q => hac q.1))
    simp only [f_118, f_118_5, f_118_11, f_118_41, n100, e1, pk_mul, e2, a1, gd_tt, oA_arr, px_obj_s, Option.bind_some, Option.map_some, Option.bind_none, eq_self, true_or, or_true, px_av_0, px_av_1, px_av_2, px_av_10, px_av_11, bn, wi_1, wi_2, wl_1, wl_21, wl_22, wr_1, wr_21, wr_22, Sum.elim_inl, Sum.elim_inr, ↓reduceIte, Nat.reduceLT, Nat.reduceLeDiff, not_false_eq_true, not_true_eq_false, Nat.reduceEqDiff, Nat.reduceAdd, reduceCtorEq, and_true, true_and, and_false, false_and, false_or, or_false]
theorem rm_rm (hw : wf n B) (w v : Nat) : rm (rm B w) v = rm B (w ||| v) := by
  funext x
  apply Nat.eq_of_testBit_eq
  intro y
  rw [rm_tb (wf_2048 (wf_rm hw w)), rm_tb (wf_2048 hw), rm_tb (wf_2048 hw), Nat.testBit_or]
  cases (B x).testBit y <;> cases w.testBit (dq x y) <;> cases v.testBit (dq x y) <;> rfl
/-- the doors of a set from a bit on, below it -/
def hiV (V thr : Nat) : Nat := bs (fun i => V.testBit i && decide (thr ≤ i)) 55
def loV (V thr : Nat) : Nat := bs (fun i => V.testBit i && decide (i < thr)) 55
theorem hiV_tb {V thr : Nat} (h55 : ∀ i, V.testBit i = true → i < 55) (i : Nat) : (hiV V thr).testBit i = (V.testBit i && decide (thr ≤ i)) := by
  unfold hiV
  rw [bs_tb]
  cases q : V.testBit i with
  | false => simp
  | true => simp [h55 i q]
theorem loV_tb {V thr : Nat} (h55 : ∀ i, V.testBit i = true → i < 55) (i : Nat) : (loV V thr).testBit i = (V.testBit i && decide (i < thr)) := by
  unfold loV
  rw [bs_tb]
  cases q : V.testBit i with
  | false => simp
  | true => simp [h55 i q]
theorem hiV_bc {V thr : Nat} (h55 : ∀ i, V.testBit i = true → i < 55) (ht : thr ≤ 55) : bc 55 V = bc 55 (hiV V thr) + bc thr V := by
  have e : bc thr V = bc 55 (loV V thr) := by
    have h1 : bc 55 (loV V thr) = bc thr (loV V thr) := bc_gap ht (fun i h1 h2 => by rw [loV_tb h55, decide_eq_false (by omega), Bool.and_false])
    rw [h1]
    exact bc_congr (fun i hi => by rw [loV_tb h55, decide_eq_true hi, Bool.and_true])
  rw [e, ← bc_or (fun i q => by
    rw [hiV_tb h55, loV_tb h55, Bool.and_eq_true, Bool.and_eq_true, decide_eq_true_eq, decide_eq_true_eq] at q
    omega)]
  congr 1
  apply tb_eq
  intro i
  rw [Nat.testBit_or, hiV_tb h55, loV_tb h55]
  by_cases q : thr ≤ i
  · simp [q, show ¬ i < thr by omega]
  · simp [q, show i < thr by omega]
/-- the next door the model takes is the next of the best cure -/
theorem next_ok (hw : wf n B) {r V k thr i0 a0 b0 : Nat} (hV : isB n B r V) (ht : thr ≤ 55) (hk : bc 55 (hiV V thr) = k) (hi : i0 < thr) (hkth : kth V k i0) (hgap : ∀ j, i0 < j → j < thr → V.testBit j = false) (hab : a0 < b0) (hb : b0 < n) (e0 : i0 = qd a0 b0) : (rm B (hiV V thr) a0).testBit b0 = true ∧ cu n (wl (rm B (hiV V thr)) a0 b0) (r - k - 1) (100 * a0 + b0 : Nat) ∧ wl (rm B (hiV V thr)) a0 b0 = rm B (hiV V i0) := by
  have hn := hw.1
  have h55 : ∀ i, V.testBit i = true → i < 55 := fun i hi => drs_55 hV.1.1 hi
  have hbcV := isB_bc hV
  have hBab : (B a0).testBit b0 = true := by
    obtain ⟨x, y, z1, z2, z3, z4, -⟩ := hV.1.1 i0 hkth.2.1
    obtain ⟨rfl, rfl⟩ := qd_inj hab (by omega) z1 (by omega) (by rw [← e0, z4])
    exact z3
  have hup : hiV V thr ||| 2 ^ i0 = hiV V i0 := by
    apply tb_eq
    intro j
    rw [Nat.testBit_or, hiV_tb h55, hiV_tb h55, Nat.testBit_two_pow, Bool.or_eq_true, Bool.and_eq_true, Bool.and_eq_true, decide_eq_true_eq, decide_eq_true_eq, decide_eq_true_eq]
    constructor
    · rintro (⟨q1, q2⟩ | rfl)
      · exact ⟨q1, by omega⟩
      · exact ⟨hkth.2.1, Nat.le_refl _⟩
    · rintro ⟨q1, q2⟩
      by_cases q : j = i0
      · exact Or.inr q.symm
      · by_cases q3 : thr ≤ j
        · exact Or.inl ⟨q1, q3⟩
        · rw [hgap j (by omega) (by omega)] at q1; cases q1
  have hwr := wf_rm hw (hiV V thr)
  have e3 : wl (rm B (hiV V thr)) a0 b0 = rm B (hiV V i0) := by
    have := rm_add (w := 0) hwr hab hb
    rw [rm_0 (wf_wl hwr (by omega)), Nat.zero_or, rm_rm hw, ← e0, hup] at this
    exact this
  refine ⟨?_, ?_, e3⟩
  · rw [rm_tb (wf_2048 hw), hBab, dq_lo hab, ← e0, hiV_tb h55, decide_eq_false (by omega), Bool.and_false]; rfl
  · rw [e3]
    refine ⟨loV V i0, fun j hj => ?_, ?_, ?_⟩
    · rw [loV_tb h55, Bool.and_eq_true, decide_eq_true_eq] at hj
      obtain ⟨x, y, z1, z2, z3, z4, -⟩ := hV.1.1 j hj.1
      refine ⟨x, y, z1, z2, ?_, z4, ?_⟩
      · rw [rm_tb (wf_2048 hw), z3, dq_lo z1, ← z4, hiV_tb h55, decide_eq_false (by omega), Bool.and_false]; rfl
      · have := (qd_ord a0 (by omega) b0 (by omega) hab x (by omega) y (by omega) z1).mpr (by rw [← z4, ← e0]; exact hj.2)
        omega
    · have h1 : bc 55 (loV V i0) = bc i0 V := by
        rw [bc_gap (V := loV V i0) (lo := i0) (hi := 55) (by have := hkth.1; omega) (fun i h1 h2 => by rw [loV_tb h55, decide_eq_false (by omega), Bool.and_false])]
        exact bc_congr (fun i hi => by rw [loV_tb h55, decide_eq_true hi, Bool.and_true])
      have h2 := bc_step V i0
      rw [hkth.2.1] at h2
      have h3 := hkth.2.2
      have t1 : (true : Bool).toNat = 1 := rfl
      omega
    · rw [rm_rm hw]
      have : hiV V i0 ||| loV V i0 = V := by
        apply tb_eq
        intro i
        rw [Nat.testBit_or, hiV_tb h55, loV_tb h55]
        by_cases q : i0 ≤ i
        · simp [q, show ¬ i < i0 by omega]
        · simp [q, show i < i0 by omega]
      rw [this]; exact hV.1.2.2
theorem next_no (hw : wf n B) {r V k thr i0 x y : Nat} (hV : isB n B r V) (ht : thr ≤ 55) (hk : bc 55 (hiV V thr) = k) (hkr : k < r) (hgap : ∀ j, i0 < j → j < thr → V.testBit j = false) (hxy : x < y) (hy : y < n) (h1 : i0 < qd x y) (h2 : qd x y < thr) (hb : (rm B (hiV V thr) x).testBit y = true) : ¬ cu n (wl (rm B (hiV V thr)) x y) (r - k - 1) (100 * x + y : Nat) := by
  have hn := hw.1
  have h55 : ∀ i, V.testBit i = true → i < 55 := fun i hi => drs_55 hV.1.1 hi
  rintro ⟨w3, g1, g2, g3⟩
  have hwr := wf_rm hw (hiV V thr)
  have w3lt : ∀ j, w3.testBit j = true → j < qd x y := fun j hj => by
    obtain ⟨a, b, z1, z2, -, z4, z5⟩ := g1 j hj
    have := (qd_ord x (by omega) y (by omega) hxy a (by omega) b (by omega) z1).mp (by omega)
    rw [z4]; exact this
  have hBxy : (B x).testBit y = true := by rw [rm_tb (wf_2048 hw), Bool.and_eq_true] at hb; exact hb.1
  have hW : cw n B r (-1) (hiV V thr ||| (w3 ||| 2 ^ qd x y)) := by
    refine ⟨fun j hj => ?_, ?_, ?_⟩
    · rw [Nat.testBit_or, Nat.testBit_or, Nat.testBit_two_pow, Bool.or_eq_true, Bool.or_eq_true, decide_eq_true_eq] at hj
      rcases hj with hj | hj | hj
      · rw [hiV_tb h55, Bool.and_eq_true] at hj
        exact hV.1.1 j hj.1
      · obtain ⟨a, b, z1, z2, z3, z4, z5⟩ := g1 j hj
        rw [wl_tb (wf_2048 hwr) (by omega), Bool.and_eq_true, rm_tb (wf_2048 hw), Bool.and_eq_true] at z3
        exact ⟨a, b, z1, z2, z3.1.1, z4, by omega⟩
      · exact ⟨x, y, hxy, hy, hBxy, hj.symm, by omega⟩
    · have d1 : ∀ i, ¬ ((hiV V thr).testBit i = true ∧ (w3 ||| 2 ^ qd x y).testBit i = true) := fun i q => by
        rw [hiV_tb h55, Bool.and_eq_true, decide_eq_true_eq, Nat.testBit_or, Nat.testBit_two_pow, Bool.or_eq_true, decide_eq_true_eq] at q
        rcases q.2 with z | z
        · have := w3lt i z; omega
        · omega
      have d2 : w3.testBit (qd x y) = false := Bool.eq_false_iff.mpr (fun q => by have := w3lt _ q; omega)
      rw [bc_or d1, bc_one (qd_lt x y) d2, hk]
      omega
    · have := rm_add (w := w3) hwr hxy hy
      rw [this, rm_rm hw] at g3
      exact g3
  have hle := hV.2.2 _ hW
  have hlt : V < hiV V thr ||| (w3 ||| 2 ^ qd x y) := lt_bit (qd x y) (hgap _ h1 h2) (by
    rw [Nat.testBit_or, Nat.testBit_or, Nat.testBit_two_pow_self, Bool.or_true, Bool.or_true]) (fun j hj => by
    rw [Nat.testBit_or, Nat.testBit_or, Nat.testBit_two_pow, hiV_tb h55]
    have z1 : w3.testBit j = false := Bool.eq_false_iff.mpr (fun q => by have := w3lt _ q; omega)
    rw [z1, decide_eq_false (show ¬ qd x y = j by omega)]
    by_cases q : thr ≤ j
    · simp [q]
    · rw [hgap j (by omega) (by omega)]; simp)
  omega
/-- the model's row of walls -/
def R31 (l j : Nat) : Bool := CKt l j || l == 31
theorem e_row (hw : wf n B) {r V x : Nat} (hr6 : r ≤ 6) (hV : isB n B r V) (hx : x < r) (hR : mR σ.2.2) (hm : mo σ n B) : ∃ b, f_117_87 tT 0 (nI (10 + x)) (nI r) (-1) (nI 0) σ = some b ∧ ∃ υ a c, b = (nI (100 * a + c), υ) ∧ a < c ∧ c < n ∧ kth V x (qd a c) ∧ fr R31 σ υ ∧ ∀ k, k < 12 → υ.1 1 (1 + k) = σ.1 18 k := by
  have hn := hw.1
  have h55 : ∀ i, V.testBit i = true → i < 55 := fun i hi => drs_55 hV.1.1 hi
  have hbcV := isB_bc hV
  have m1 : (-1 : Int32).toInt = -1 := by decide
  unfold f_117_87
  refine lp_for (F := fun s : Int32 × Int32 × px_M => F_117_87 tT 0 (nI (10 + x)) (nI r) s.1 s.2.1 s.2.2) (fun k q => ∃ ρ v thr, q = (v, nI k, ρ) ∧ thr ≤ 55 ∧ bc 55 (hiV V thr) = k ∧ ((v = -1 ∧ thr = 55) ∨ ∃ a c, a < c ∧ c < n ∧ v = nI (100 * a + c) ∧ thr = qd a c) ∧ mo ρ n (rm B (hiV V thr)) ∧ fr R31 σ ρ ∧ ∀ j, j < k → ∃ a c, a < c ∧ c < n ∧ ρ.1 31 j = nI (100 * a + c) ∧ kth V j (qd a c)) _ r (fun k q hk hI => ?_) (fun q hI => ?_) 0 (-1, nI 0, σ) (by omega) ⟨σ, -1, 55, rfl, Nat.le_refl _, ?_, Or.inl ⟨rfl, rfl⟩, ?_, fr_rf _ _, fun j hj => by omega⟩
  · obtain ⟨ρ, v, thr, rfl, g1, g2, g3, g4, g5, g6⟩ := hI
    have hcnt : bc 55 V = bc thr V + k := by have := hiV_bc h55 g1; omega
    obtain ⟨i0, y1, y2, y3⟩ := kth_next g1 h55 hcnt (by omega)
    obtain ⟨a0, b0, z1, z2, z3, z4, -⟩ := hV.1.1 i0 y2.2.1
    obtain ⟨o1, o2, o3⟩ := next_ok hw hV g1 g2 y1 y2 y3 z1 z2 z4
    -- where the search begins
    obtain ⟨fr0, f1, f2⟩ : ∃ fr0 : Nat, v + nI 1 = nI fr0 ∧ fr0 ≤ 100 * a0 + b0 ∧ ∀ a c, a < c → c < n → fr0 ≤ 100 * a + c → qd a c < thr := by
      rcases g3 with ⟨rfl, rfl⟩ | ⟨a, c, w1, w2, rfl, rfl⟩
      · exact ⟨0, by decide, Nat.zero_le _, fun a c _ _ _ => qd_lt a c⟩
      · have := (qd_ord a (by omega) c (by omega) w1 a0 (by omega) b0 (by omega) z1).mpr (by rw [← z4]; exact y1)
        exact ⟨100 * a + c + 1, by rw [nI_add], by omega, fun a' c' k1 k2 k3 => (qd_ord a (by omega) c (by omega) w1 a' (by omega) c' (by omega) k1).mp (by omega)⟩
    have sub1 : nI r - nI k - nI 1 = nI (r - k - 1) := by rw [ni_subL (by omega), ni_subL (by omega)]
    have search : ∃ b, f_117_98 tT 0 (nI (10 + x)) (nI r) (nI k) (nI fr0) ρ = some b ∧ ∃ υ, b = .inl (nI (100 * a0 + b0), nI (k + 1), px_wi υ 31 k (nI (100 * a0 + b0))) ∧ fr CKt ρ υ ∧ mo υ n (rm B (hiV V i0)) := by
      unfold f_117_98
      refine lp_rel (F := fun s : Int32 × px_M => F_117_98 tT 0 (nI (10 + x)) (nI r) (nI k) s.1 s.2) (fun j q => ∃ ω, q = (nI (fr0 + j), ω) ∧ fk CK ρ ω) _ (100 * a0 + b0 - fr0) (fun j q hj hI => ?_) 0 (nI fr0, ρ) (by omega) ⟨ρ, rfl, fk_rf _ _⟩
      obtain ⟨ω, rfl, w1⟩ := hI
      have hmω := mo_fk w1 g4
      rcases e_take hmω (dd := fr0 + j) (more := r - k - 1) (by omega) (by omega) with ⟨υ, a, c, t1, t2, t3, t4, t5, t6, t7, t8⟩ | ⟨υ, t1, t2, t3⟩
      · -- taken: it is the next one
        have hac : a = a0 ∧ c = b0 := by
          by_cases hq : 100 * a + c < 100 * a0 + b0
          · exfalso
            have q1 := (qd_ord a (by omega) c (by omega) t3 a0 (by omega) b0 (by omega) z1).mp hq
            have q2 := f2.2 a c t3 t4 (by omega)
            exact next_no hw hV g1 g2 hk y3 t3 t4 (by rw [z4]; exact q1) q2 t5 (by rw [← t2]; exact t6)
          · omega
        obtain ⟨rfl, rfl⟩ := hac
        refine Or.inr ⟨.inl (nI (100 * a + c), nI (k + 1), px_wi υ 31 k (nI (100 * a + c))), ?_, υ, rfl, fr_tr w1.1 t7, by rw [← o3]; exact t8⟩
        have c1 : vp_in (nI k) 6 := (vp_in_eq (by omega)).mpr (by omega)
        have c2 : (nI k).toNatClampNeg = k := nI_clamp (by omega)
        dsimp only
        unfold F_117_98
        rw [sub1]
        simp only [la_0, la_31, gd_tt, oA_arr, px_obj_s, Option.bind_some, Option.map_some, Option.bind_none, eq_self, true_or, or_true, px_av_0, px_av_1, px_av_2, px_av_10, px_av_11, bn, wi_1, wi_2, wl_1, wl_21, wl_22, wr_1, wr_21, wr_22, Sum.elim_inl, Sum.elim_inr, ↓reduceIte, Nat.reduceLT, Nat.reduceLeDiff, not_false_eq_true, not_true_eq_false, Nat.reduceEqDiff, Nat.reduceAdd, reduceCtorEq, and_true, true_and, and_false, false_and, false_or, or_false, t1, n10, rm_0_31 t8.1, c1, c2, nI_add, ← t2]
      · by_cases hlt : fr0 + j < 100 * a0 + b0
        · refine Or.inl ⟨(nI (fr0 + j + 1), υ), ?_, by omega, υ, rfl, fk_tr w1 t2⟩
          dsimp only
          unfold F_117_98
          rw [sub1]
          simp only [la_0, gd_tt, oA_arr, px_obj_s, Option.bind_some, Option.map_some, Option.bind_none, eq_self, true_or, or_true, px_av_0, px_av_1, px_av_2, px_av_10, px_av_11, bn, wi_1, wi_2, wl_1, wl_21, wl_22, wr_1, wr_21, wr_22, Sum.elim_inl, Sum.elim_inr, ↓reduceIte, Nat.reduceLT, Nat.reduceLeDiff, not_false_eq_true, not_true_eq_false, Nat.reduceEqDiff, Nat.reduceAdd, reduceCtorEq, and_true, true_and, and_false, false_and, false_or, or_false, t1, nI_add]
        · exfalso
          have hj0 : fr0 + j = 100 * a0 + b0 := by omega
          exact t3 a0 b0 hj0 z1 z2 o1 (by rw [hj0]; exact o2)
    obtain ⟨b, u1, υ, rfl, u2, u3⟩ := search
    refine ⟨_, ?_, px_wi υ 31 k (nI (100 * a0 + b0)), nI (100 * a0 + b0), i0, rfl, by omega, ?_, Or.inr ⟨a0, b0, z1, z2, rfl, z4⟩, ?_, ?_, fun j hj => ?_⟩
    · have a1 : ¬ nI r ≤ nI k := by rw [nI_leI (by omega) (by omega)]; omega
      dsimp only
      unfold F_117_87
      simp only [a1, ↓reduceIte, f1, u1]
    · have := hiV_bc h55 (show i0 ≤ 55 by omega)
      have s1 := bc_step V i0
      rw [y2.2.1] at s1
      have s2 := y2.2.2
      have t1 : (true : Bool).toNat = 1 := rfl
      omega
    · exact mo_on (k := 31) (by decide) (fr_wi (fr_rf _ _) _ rfl) u3
    · exact fr_tr g5 (fr_wi (fr_mono u2 (fun l j q => by simp only [R31, Bool.or_eq_false_iff] at q; exact q.1)) _ (by simp [R31]))
    · by_cases q : j = k
      · subst q
        exact ⟨a0, b0, z1, z2, wi_s _ _ _ _, by rw [← z4]; exact y2⟩
      · obtain ⟨a, c, w1, w2, w3, w4⟩ := g6 j (by omega)
        refine ⟨a, c, w1, w2, ?_, w4⟩
        show px_up υ.1 31 k _ 31 j = _
        rw [up_s, if_neg q, u2.1 31 j rfl]; exact w3
  · obtain ⟨ρ, v, thr, rfl, g1, g2, g3, g4, g5, g6⟩ := hI
    obtain ⟨ρ2, e1, e2, e3⟩ := e_isAgain g4.1 la_18 (by decide)
    obtain ⟨a, c, w1, w2, w3, w4⟩ := g6 x hx
    have v31 : ρ2.1 31 x = nI (100 * a + c) := by rw [e2.1 31 x rfl]; exact w3
    refine ⟨(nI (100 * a + c), ρ2), ?_, ρ2, a, c, rfl, w1, w2, w4, fr_tr g5 (fr_mono e2 (fun l j q => by simp only [R31, CKt, Bool.or_eq_false_iff] at q; exact q.1.2)), fun k hk => by rw [e3 k hk, g5.1 18 k rfl]⟩
    have a1 : nI r ≤ nI r := by rw [nI_leI (by omega) (by omega)]; omega
    have sub1 : nI (10 + x) - nI 10 = nI x := by rw [ni_subL (by omega)]; congr 1; omega
    have c1 : vp_in (nI x) 6 := (vp_in_eq (by omega)).mpr (by omega)
    have c2 : (nI x).toNatClampNeg = x := nI_clamp (by omega)
    dsimp only
    unfold F_117_87
    rw [sub1]
    simp only [a1, la_0, la_31, rm_0_18 g4.1, gd_tt, oA_arr, px_obj_s, Option.bind_some, Option.map_some, Option.bind_none, eq_self, true_or, or_true, px_av_0, px_av_1, px_av_2, px_av_10, px_av_11, bn, wi_1, wi_2, wl_1, wl_21, wl_22, wr_1, wr_21, wr_22, Sum.elim_inl, Sum.elim_inr, ↓reduceIte, Nat.reduceLT, Nat.reduceLeDiff, not_false_eq_true, not_true_eq_false, Nat.reduceEqDiff, Nat.reduceAdd, reduceCtorEq, and_true, true_and, and_false, false_and, false_or, or_false, e1, rm_0_31 (mR_fr e2 g4.1), c1, c2, v31]
  · have := hiV_bc (thr := 55) h55 (Nat.le_refl _)
    omega
  · have : hiV V 55 = 0 := by
      apply tb_eq
      intro i
      rw [hiV_tb h55, Nat.zero_testBit, Bool.and_eq_true, decide_eq_true_eq]
      constructor
      · rintro ⟨q1, q2⟩; have := h55 i q1; omega
      · intro q; cases q
    rw [this, rm_0 hw]; exact hm
end
