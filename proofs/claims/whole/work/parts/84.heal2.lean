/-! cures: the class's healer -/
theorem exmin {P : Nat → Prop} (h : ∃ m, P m) : ∃ m, P m ∧ ∀ k, k < m → ¬ P k := by
  apply Classical.byContradiction
  intro hno
  have : ∀ m, ¬ P m := by
    intro m
    induction m using Nat.strongRecOn with
    | ind m ih => intro hp; exact hno ⟨m, hp, ih⟩
  obtain ⟨m, hm⟩ := h
  exact this m hm
section
variable {σ τ : px_M} {t n : Nat} {B : Nat → Nat} {f : Int}
theorem e3_i {a b c : Nat} : e3 B a b c = 1 ↔ ((B a).testBit b = true ∧ (B a).testBit c = true ∧ (B b).testBit c = true) := by
  unfold e3
  cases (B a).testBit b <;> cases (B a).testBit c <;> cases (B b).testBit c <;> simp
theorem e3_z {a b c : Nat} (h : ¬ ((B a).testBit b = true ∧ (B a).testBit c = true ∧ (B b).testBit c = true)) : e3 B a b c = 0 := by
  unfold e3
  revert h
  cases (B a).testBit b <;> cases (B a).testBit c <;> cases (B b).testBit c <;> simp
theorem c_three0 (hc : ct σ t n B) : (f_11024 tT σ t (nI 0) = some (-1) ∧ n3 n B) ∨ ∃ a b c, thr3 n B a b c ∧ f_11024 tT σ t (nI 0) = some (nI (10000 * a + 100 * b + c)) := by
  have hn := hc.2.2.2.1.1
  rw [c_threeAt hc]
  by_cases h : ∃ m, ∃ a b c, thr3 n B a b c ∧ 10000 * a + 100 * b + c = m
  · obtain ⟨m, ⟨a, b, c, h1, rfl⟩, h2⟩ := exmin h
    refine Or.inr ⟨a, b, c, h1, ?_⟩
    obtain ⟨⟨t1, t2, t3⟩, t4⟩ := id h1
    have no : ∀ x y z, x < y → y < z → z < n → 10000 * x + 100 * y + z < 10000 * a + 100 * b + c → e3 B x y z = 0 := fun x y z k1 k2 k3 k4 => e3_z (fun q => h2 _ k4 ⟨x, y, z, ⟨⟨k1, k2, k3⟩, q⟩, rfl⟩)
    have g2z : ∀ x y, x < y → y < n → 10000 * x + 100 * y + 99 < 10000 * a + 100 * b + c → g2 B n x y = 0 := fun x y k1 k2 k3 => by
      unfold g2
      rw [sm_congr (g := fun _ => 0) (fun z hz => by
        by_cases q : y < z
        · rw [if_pos q]; exact no x y z k1 q hz (by omega)
        · rw [if_neg q]), sm_0]
    have g1z : ∀ x, x < a → g1 B n x = 0 := fun x hx => by
      unfold g1
      rw [sm_congr (g := fun _ => 0) (fun y hy => by
        by_cases q : x < y
        · rw [if_pos q]; exact g2z x y q hy (by omega)
        · rw [if_neg q]), sm_0]
    have s1 : sm (fun a => g1 B n a) a = 0 := by rw [sm_congr (g := fun _ => 0) (fun x hx => g1z x hx), sm_0]
    have s2 : sm (fun b => if a < b then g2 B n a b else 0) b = 0 := by
      rw [sm_congr (g := fun _ => 0) (fun y hy => by
        by_cases q : a < y
        · rw [if_pos q]; exact g2z a y q (by omega) (by omega)
        · rw [if_neg q]), sm_0]
    have s3 : sm (fun c => if b < c then e3 B a b c else 0) c = 0 := by
      rw [sm_congr (g := fun _ => 0) (fun z hz => by
        by_cases q : b < z
        · rw [if_pos q]; exact no a b z t1 q (by omega) (by omega)
        · rw [if_neg q]), sm_0]
    have hp3 : p3 B (nI 0) a b 0 c = some (nI (10000 * a + 100 * b + c)) := by
      unfold p3
      rw [s3, if_pos ⟨t2, e3_i.mpr t4, rfl⟩]
    have hp2 : p2 B n (nI 0) a 0 b = some (nI (10000 * a + 100 * b + c)) := by
      unfold p2
      rw [if_pos t1, s2]
      refine fo_some hp3 (fun z hz => ?_) t3
      unfold p3
      rw [if_neg]
      rintro ⟨q1, q2, -⟩
      rw [no a b z t1 q1 (by omega) (by omega)] at q2; cases q2
    have hp1 : p1 B n (nI 0) a = some (nI (10000 * a + 100 * b + c)) := by
      unfold p1
      rw [s1]
      refine fo_some hp2 (fun y hy => ?_) (by omega)
      unfold p2
      by_cases q : a < y
      · rw [if_pos q]
        refine fo_none (fun z hz => ?_)
        unfold p3
        rw [if_neg]
        rintro ⟨q1, q2, -⟩
        rw [no a y z q q1 hz (by omega)] at q2; cases q2
      · rw [if_neg q]
    rw [fo_some hp1 (fun x hx => ?_) (by omega)]
    · rfl
    · unfold p1
      refine fo_none (fun y hy => ?_)
      unfold p2
      by_cases q : x < y
      · rw [if_pos q]
        refine fo_none (fun z hz => ?_)
        unfold p3
        rw [if_neg]
        rintro ⟨q1, q2, -⟩
        rw [no x y z q q1 hz (by omega)] at q2; cases q2
      · rw [if_neg q]
  · refine Or.inl ⟨?_, fun a b c h1 h2 h3 h4 => h ⟨_, a, b, c, ⟨⟨h1, h2, h3⟩, h4⟩, rfl⟩⟩
    rw [fo_none (fun x hx => ?_)]
    · rfl
    · unfold p1
      refine fo_none (fun y hy => ?_)
      unfold p2
      by_cases q : x < y
      · rw [if_pos q]
        refine fo_none (fun z hz => ?_)
        unfold p3
        rw [if_neg]
        rintro ⟨q1, q2, -⟩
        exact h ⟨_, x, y, z, ⟨⟨q, q1, hz⟩, e3_i.mp q2⟩, rfl⟩
      · rw [if_neg q]
/-- the greatest of some, and one known before -/
def HO (S : Nat → Prop) (M M' : Option Nat) : Prop := (∀ v, S v → ∃ u, M' = some u ∧ v ≤ u) ∧ (∀ v, M = some v → ∃ u, M' = some u ∧ v ≤ u) ∧ ∀ u, M' = some u → M = some u ∨ S u
theorem HO_tr {S1 S2 : Nat → Prop} {M M1 M2 : Option Nat} (h1 : HO S1 M M1) (h2 : HO S2 M1 M2) : HO (fun v => S1 v ∨ S2 v) M M2 := by
  obtain ⟨a1, a2, a3⟩ := h1
  obtain ⟨b1, b2, b3⟩ := h2
  refine ⟨fun v hv => ?_, fun v hv => ?_, fun u hu => ?_⟩
  · rcases hv with q | q
    · obtain ⟨u, e, hle⟩ := a1 v q
      obtain ⟨u', e', hle'⟩ := b2 u e
      exact ⟨u', e', by omega⟩
    · exact b1 v q
  · obtain ⟨u, e, hle⟩ := a2 v hv
    obtain ⟨u', e', hle'⟩ := b2 u e
    exact ⟨u', e', by omega⟩
  · rcases b3 u hu with q | q
    · rcases a3 u q with z | z
      · exact Or.inl z
      · exact Or.inr (Or.inl z)
    · exact Or.inr (Or.inr q)
def oL (M : Option Nat) : Int64 := match M with
  | none => -1
  | some v => lN v
def KH (l j : Nat) : Bool := l == 201 || l == 202 || (l == 200 && j == 1)
theorem c_bitOf (σ : px_M) {a b : Nat} (hab : a < b) (hb : b < 11) : f_5005 tT σ (nI a) (nI b) = some (lN (2 ^ qd a b)) := by
  have h0 : ∀ b, b < 11 → ∀ a, a < b → (lN 1 <<< ((nI 54 - (((nI a * ((nI 22 - nI a) - nI 1)) / nI 2 + nI b) - nI a - nI 1)).toInt64 &&& 63)) = lN (2 ^ qd a b) := by decide +kernel
  have z : ¬ nI 2 = nI 0 := by decide
  unfold f_5005 f_5005_17
  rw [gd_t z, h0 b hb a hab]
theorem lN_or (a b : Nat) : lN a ||| lN b = lN (a ||| b) := by
  show Int64.ofNat a ||| Int64.ofNat b = Int64.ofNat (a ||| b)
  apply Int64.toBitVec_inj.mp
  rw [Int64.toBitVec_or]
  show BitVec.ofNat 64 a ||| BitVec.ofNat 64 b = BitVec.ofNat 64 (a ||| b)
  rw [BitVec.ofNat_or]
theorem f_5003_S2 (d : Nat) : f_5003 tT (d + 1) = F_5003 tT (f_5003 tT d) (f_5004 tT d) := rfl
theorem f_5004_S2 (d : Nat) : f_5004 tT (d + 1) = F_5004 tT (f_5003 tT d) (f_5004 tT d) := rfl
theorem or_55 {a b : Nat} (ha : a < 2 ^ 55) (hb : b < 2 ^ 55) : a ||| b < 2 ^ 55 := Nat.or_lt_two_pow ha hb
theorem cw_lt {k w : Nat} (h : cw n B k f w) : w < 2 ^ 55 := lt_tb (fun i hi => drs_55 h.1 hi)
theorem c_heal : ∀ k d, 2 * k + 1 ≤ d → k ≤ 6 → ∀ (σ : px_M) (B : Nat → Nat) (R : Nat) (M : Option Nat), cR σ.2.2 → ct σ 201 n B → R < 2 ^ 55 → σ.2.1 200 1 = oL M → (∀ v, M = some v → v < 2 ^ 55) → ∃ υ M' S, f_5003 tT d σ 200 (nI k) (lN R) = some υ ∧ υ.2.1 200 1 = oL M' ∧ HO S M M' ∧ (∀ v, S v → ∃ w, cw n B k (-1) w ∧ v = R ||| w) ∧ (∀ w, cw n B k (-1) w → ∃ w', cw n B k (-1) w' ∧ S (R ||| w') ∧ ∀ i, w'.testBit i = true → w.testBit i = true) ∧ fr KH σ υ ∧ ct υ 201 n B ∧ ∀ v, M' = some v → v < 2 ^ 55 := by
  intro k
  -- nothing left to cure
  have leaf : ∀ k d, 1 ≤ d → ∀ (σ : px_M) (B : Nat → Nat) (R : Nat) (M : Option Nat), cR σ.2.2 → ct σ 201 n B → R < 2 ^ 55 → σ.2.1 200 1 = oL M → (∀ v, M = some v → v < 2 ^ 55) → f_11024 tT σ 201 (nI 0) = some (-1) → n3 n B → ∃ υ M' S, f_5003 tT d σ 200 (nI k) (lN R) = some υ ∧ υ.2.1 200 1 = oL M' ∧ HO S M M' ∧ (∀ v, S v → ∃ w, cw n B k (-1) w ∧ v = R ||| w) ∧ (∀ w, cw n B k (-1) w → ∃ w', cw n B k (-1) w' ∧ S (R ||| w') ∧ ∀ i, w'.testBit i = true → w.testBit i = true) ∧ fr KH σ υ ∧ ct υ 201 n B ∧ ∀ v, M' = some v → v < 2 ^ 55 := by
    intro k d hd σ B R M hR hc hRb hM hMb h3 hn3
    obtain ⟨d, rfl⟩ : ∃ d', d = d' + 1 := ⟨d - 1, by omega⟩
    have hw := hc.2.2.2.1
    obtain ⟨M', hM', e'⟩ : ∃ M', HO (fun v => v = R) M M' ∧ (if lN R < oL M then oL M else lN R) = oL M' ∧ ∀ v, M' = some v → v < 2 ^ 55 := by
      cases M with
      | none =>
        refine ⟨some R, ⟨fun v hv => ⟨R, rfl, by omega⟩, fun v hv => (by cases hv), fun u hu => Or.inr ?_⟩, ?_, fun v hv => (by cases hv; exact hRb)⟩
        · cases hu; rfl
        · rw [if_neg]
          · rfl
          · rw [fa_lt64, pf_lI (by omega)]
            have : (oL none).toInt = -1 := by decide
            omega
      | some u =>
        have hu := hMb u rfl
        have e : oL (some u) = lN u := rfl
        by_cases q : R < u
        · refine ⟨some u, ⟨fun v hv => ⟨u, rfl, by omega⟩, fun v hv => ⟨u, rfl, (by cases hv; exact Nat.le_refl _)⟩, fun w hw => Or.inl hw⟩, ?_, hMb⟩
          rw [if_pos (by rw [e, fa_lt64, pf_lI (by omega), pf_lI (by omega)]; omega)]
        · refine ⟨some R, ⟨fun v hv => ⟨R, rfl, by omega⟩, fun v hv => ⟨R, rfl, (by cases hv; omega)⟩, fun w hw => Or.inr (by cases hw; rfl)⟩, ?_, fun v hv => (by cases hv; exact hRb)⟩
          rw [if_neg (by rw [e, fa_lt64, pf_lI (by omega), pf_lI (by omega)]; omega)]
          rfl
    refine ⟨px_wl σ 200 1 (oL M'), M', fun v => v = R, ?_, (by rw [wl_21]; exact px_up_s _ _ _ _), hM', fun v hv => ⟨0, cw_0 hw k hn3, by rw [Nat.or_zero]; exact hv⟩, fun w hw' => ⟨0, cw_0 hw k hn3, by rw [Nat.or_zero], fun i hi => by rw [Nat.zero_testBit] at hi; cases hi⟩, fr_wl (fr_rf _ _) _ rfl, hc, e'.2⟩
    rw [f_5003_S2, ← e'.1]
    unfold F_5003
    simp only [la_200, la_201, rc_200_0 hR, gd_tt, oA_arr, px_obj_s, Option.bind_some, Option.map_some, Option.bind_none, eq_self, true_or, or_true, px_av_0, px_av_1, px_av_2, px_av_10, px_av_11, bn, wi_1, wi_2, wl_1, wl_21, wl_22, wr_1, wr_21, wr_22, Sum.elim_inl, Sum.elim_inr, ↓reduceIte, Nat.reduceLT, Nat.reduceLeDiff, not_false_eq_true, not_true_eq_false, Nat.reduceEqDiff, Nat.reduceAdd, reduceCtorEq, and_true, true_and, and_false, false_and, false_or, or_false, h3, hM]
  induction k with
  | zero =>
    intro d hd _ σ B R M hR hc hRb hM hMb
    rcases c_three0 hc with ⟨q1, q2⟩ | ⟨a, b, c, q1, q2⟩
    · exact leaf 0 d (by omega) σ B R M hR hc hRb hM hMb q1 q2
    · obtain ⟨d, rfl⟩ : ∃ d', d = d' + 1 := ⟨d - 1, by omega⟩
      have hw := hc.2.2.2.1
      have hn := hw.1
      obtain ⟨⟨t1, t2, t3⟩, t4⟩ := id q1
      have zz : ¬ nI (10000 * a + 100 * b + c) = -1 := nI_m1 (by omega)
      refine ⟨σ, M, fun _ => False, ?_, hM, ⟨fun v hv => hv.elim, fun v hv => ⟨v, hv, Nat.le_refl _⟩, fun u hu => Or.inl hu⟩, fun v hv => hv.elim, fun w hw' => absurd t4 (cw_k0 hw hw' a b c t1 t2 t3), fr_rf _ _, hc, hMb⟩
      rw [f_5003_S2]
      have a1 : ¬ nI 0 < nI 0 := by decide
      unfold F_5003
      simp only [la_200, la_201, rc_200_0 hR, gd_tt, oA_arr, px_obj_s, Option.bind_some, Option.map_some, Option.bind_none, eq_self, true_or, or_true, px_av_0, px_av_1, px_av_2, px_av_10, px_av_11, bn, wi_1, wi_2, wl_1, wl_21, wl_22, wr_1, wr_21, wr_22, Sum.elim_inl, Sum.elim_inr, ↓reduceIte, Nat.reduceLT, Nat.reduceLeDiff, not_false_eq_true, not_true_eq_false, Nat.reduceEqDiff, Nat.reduceAdd, reduceCtorEq, and_true, true_and, and_false, false_and, false_or, or_false, q2, zz, a1]
  | succ k ih =>
    intro d hd hk6 σ B R M hR hc hRb hM hMb
    rcases c_three0 hc with ⟨q1, q2⟩ | ⟨a, b, c, q1, q2⟩
    · exact leaf (k + 1) d (by omega) σ B R M hR hc hRb hM hMb q1 q2
    · obtain ⟨d, rfl⟩ : ∃ d', d = d' + 2 := ⟨d - 2, by omega⟩
      have hw := hc.2.2.2.1
      have hn := hw.1
      obtain ⟨⟨t1, t2, t3⟩, b1, b2, b3⟩ := id q1
      have zz : ¬ nI (10000 * a + 100 * b + c) = -1 := nI_m1 (by omega)
      have a1 : nI 0 < nI (k + 1) := by rw [nI_ltI (by omega) (by omega)]; omega
      -- one door
      have by1 : ∀ (ω : px_M) (x y : Nat) (M : Option Nat), cR ω.2.2 → ct ω 201 n B → x < y → y < n → (B x).testBit y = true → ω.2.1 200 1 = oL M → (∀ v, M = some v → v < 2 ^ 55) → ∃ υ M' S, f_5004 tT (d + 1) ω 200 (nI x) (nI y) (nI (k + 1)) (lN R) = some υ ∧ υ.2.1 200 1 = oL M' ∧ HO S M M' ∧ (∀ v, S v → ∃ w, cw n B (k + 1) (-1) w ∧ v = R ||| w) ∧ (∀ w, cw n B (k + 1) (-1) w → w.testBit (qd x y) = true → ∃ w', cw n B (k + 1) (-1) w' ∧ S (R ||| w') ∧ ∀ i, w'.testBit i = true → w.testBit i = true) ∧ fr KH ω υ ∧ ct υ 201 n B ∧ cR υ.2.2 ∧ ∀ v, M' = some v → v < 2 ^ 55 := by
        intro ω x y M hRω hcω hxy hy hbit hMω hMb
        obtain ⟨ρ1, y1, y2, y3⟩ := c_part hcω (show x < n by omega) hy (show x ≠ y by omega)
        have kh1 : fr KH ω ρ1 := fr_mono y2 (fun l j q => by
          simp only [KH, Bool.or_eq_false_iff, beq_eq_false_iff_ne] at q
          exact tw2_n q.1.1 q.1.2)
        have hR1 := cR_fr kh1 hRω
        have bo := c_bitOf ρ1 hxy (show y < 11 by omega)
        have hq55 : 2 ^ qd x y < 2 ^ 55 := Nat.pow_lt_pow_right (by omega) (qd_lt x y)
        obtain ⟨ρ2, M', S, z1, z2, z3, z4, z5, z6, z7, z8⟩ := ih d (by omega) (by omega) ρ1 (wl B x y) (R ||| 2 ^ qd x y) M hR1 y3 (or_55 hRb hq55) (by rw [y2.2.1 200 1 rfl]; exact hMω) hMb
        have hR2 := cR_fr z6 hR1
        obtain ⟨ρ3, x1, x2, x3⟩ := c_link z7 (show x < n by omega) hy (show x ≠ y by omega)
        rw [jn_wl hw (by omega) hbit] at x3
        have kh3 : fr KH ρ2 ρ3 := fr_mono x2 (fun l j q => by
          simp only [KH, Bool.or_eq_false_iff, beq_eq_false_iff_ne] at q
          exact tw2_n q.1.1 q.1.2)
        refine ⟨ρ3, M', S, ?_, by rw [x2.2.1 200 1 rfl]; exact z2, z3, fun v hv => ?_, fun w hcw hb => ?_, fr_tr kh1 (fr_tr z6 kh3), x3, cR_fr kh3 hR2, z8⟩
        · rw [f_5004_S2]
          have sub1 : nI (k + 1) - nI 1 = nI k := by rw [ni_subL (by omega)]; rfl
          unfold F_5004 f_5004_24
          simp only [la_200, la_201, rc_200_0 hRω, gd_tt, oA_arr, px_obj_s, Option.bind_some, Option.map_some, Option.bind_none, eq_self, true_or, or_true, px_av_0, px_av_1, px_av_2, px_av_10, px_av_11, bn, wi_1, wi_2, wl_1, wl_21, wl_22, wr_1, wr_21, wr_22, Sum.elim_inl, Sum.elim_inr, ↓reduceIte, Nat.reduceLT, Nat.reduceLeDiff, not_false_eq_true, not_true_eq_false, Nat.reduceEqDiff, Nat.reduceAdd, reduceCtorEq, and_true, true_and, and_false, false_and, false_or, or_false, y1, bo, sub1, lN_or, z1, rc_200_0 hR2, x1]
        · obtain ⟨w, h1, h2⟩ := z4 v hv
          have := cw_add hw hxy hy hbit (by omega) h1
          exact ⟨w ||| 2 ^ qd x y, this.1, by rw [h2, Nat.or_assoc, Nat.or_comm (2 ^ qd x y)]⟩
        · obtain ⟨w', h1, h2, h3⟩ := z5 _ (cw_take hw hxy hy hcw hb)
          have := cw_add hw hxy hy hbit (by omega) h1
          refine ⟨w' ||| 2 ^ qd x y, this.1, ?_, fun i hi => ?_⟩
          · rw [Nat.or_comm w', ← Nat.or_assoc]; exact h2
          · rw [Nat.testBit_or, Nat.testBit_two_pow, Bool.or_eq_true, decide_eq_true_eq] at hi
            rcases hi with hi | hi
            · exact ((mns_tb (fun j hj => drs_55 hcw.1 hj) i).mp (h3 i hi)).1
            · rw [← hi]; exact hb
      obtain ⟨ρ1, M1, S1, x1, x2, x3, x4, x5, x6, x7, x8, x9⟩ := by1 σ a b M hR hc t1 (by omega) b1 hM hMb
      obtain ⟨ρ2, M2, S2, y1, y2, y3, y4, y5, y6, y7, y8, y9⟩ := by1 ρ1 a c M1 x8 x7 (by omega) t3 b2 x2 x9
      obtain ⟨ρ3, M3, S3, z1, z2, z3, z4, z5, z6, z7, z8, z9⟩ := by1 ρ2 b c M2 y8 y7 t2 t3 b3 y2 y9
      refine ⟨ρ3, M3, fun v => (S1 v ∨ S2 v) ∨ S3 v, ?_, z2, HO_tr (HO_tr x3 y3) z3, fun v hv => ?_, fun w hcw => ?_, fr_tr x6 (fr_tr y6 z6), z7, z9⟩
      · rw [show d + 2 = (d + 1) + 1 from rfl, f_5003_S2]
        have n4 : ¬ nI 10000 = nI 0 := by decide
        have e1 : nI (10000 * a + 100 * b + c) / nI 10000 = nI a := by rw [ni_divL (by omega) (by decide) (by decide)]; congr 1; omega
        have e2 : nI (10000 * a + 100 * b + c) / nI 100 = nI (100 * a + b) := by rw [ni_divL (by omega) (by decide) (by decide)]; congr 1; omega
        have e3' : nI (100 * a + b) / nI 100 = nI a := by rw [ni_divL (by omega) (by decide) (by decide)]; congr 1; omega
        have s1 : nI (100 * a + b) - nI (a * 100) = nI b := by rw [ni_subL (by omega)]; congr 1; omega
        have s2 : nI (10000 * a + 100 * b + c) - nI ((100 * a + b) * 100) = nI c := by rw [ni_subL (by omega)]; congr 1; omega
        unfold F_5003 f_5003_42 f_5003_52 f_5003_59
        simp only [la_200, la_201, rc_200_0 hR, gd_tt, oA_arr, px_obj_s, Option.bind_some, Option.map_some, Option.bind_none, eq_self, true_or, or_true, px_av_0, px_av_1, px_av_2, px_av_10, px_av_11, bn, wi_1, wi_2, wl_1, wl_21, wl_22, wr_1, wr_21, wr_22, Sum.elim_inl, Sum.elim_inr, ↓reduceIte, Nat.reduceLT, Nat.reduceLeDiff, not_false_eq_true, not_true_eq_false, Nat.reduceEqDiff, Nat.reduceAdd, reduceCtorEq, and_true, true_and, and_false, false_and, false_or, or_false, q2, zz, a1, n4, n100, e1, e2, e3', pk_mul, s1, s2, x1, y1, z1]
      · rcases hv with (hv | hv) | hv
        · exact x4 v hv
        · exact y4 v hv
        · exact z4 v hv
      · rcases cw_hit hw t1 t2 t3 b1 b2 b3 hcw with q | q | q
        · obtain ⟨w', h1, h2, h3⟩ := x5 w hcw q
          exact ⟨w', h1, Or.inl (Or.inl h2), h3⟩
        · obtain ⟨w', h1, h2, h3⟩ := y5 w hcw q
          exact ⟨w', h1, Or.inl (Or.inr h2), h3⟩
        · obtain ⟨w', h1, h2, h3⟩ := z5 w hcw q
          exact ⟨w', h1, Or.inr h2, h3⟩
end
