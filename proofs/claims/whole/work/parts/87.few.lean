/-! all towns of few houses: the model's town of a number -/
def gC (d a b x : Nat) : Nat := bs (fun y => decide (x ≠ y ∧ (max x y < a ∨ (max x y = a ∧ min x y < b))) && d.testBit (eb x y)) 6
def gD (n d : Nat) : Nat → Nat := gC d n 0
theorem gC_tb {d a b : Nat} (ha : a ≤ 6) (hb : a < 6 ∨ b = 0) (x y : Nat) : (gC d a b x).testBit y = (decide (x ≠ y ∧ (max x y < a ∨ (max x y = a ∧ min x y < b))) && d.testBit (eb x y)) := by
  unfold gC
  rw [bs_tb]
  by_cases h : y < 6
  · rw [decide_eq_true h, Bool.true_and]
  · rw [decide_eq_false h, Bool.false_and, decide_eq_false (by omega), Bool.false_and]
theorem gC_S {d a b : Nat} (ha : a < 6) (hb : b < a) : gC d a (b + 1) = if d.testBit (eb a b) = true then jn (gC d a b) a b else gC d a b := by
  funext x
  apply Nat.eq_of_testBit_eq
  intro y
  have e1 := gC_tb (d := d) (a := a) (b := b + 1) (by omega) (Or.inl ha) x y
  have e2 := gC_tb (d := d) (a := a) (b := b) (by omega) (Or.inl ha) x y
  have ej : (jn (gC d a b) a b x).testBit y = ((gC d a b x).testBit y || decide ((x = a ∧ y = b) ∨ (x = b ∧ y = a))) := jn_tb (by omega) x y
  by_cases hq : (x = a ∧ y = b) ∨ (x = b ∧ y = a)
  · have e3 : eb x y = eb a b := by
      rcases hq with ⟨rfl, rfl⟩ | ⟨rfl, rfl⟩
      · rfl
      · exact eb_comm _ _
    rw [e1, e3, decide_eq_true (by omega), Bool.true_and]
    cases hd : d.testBit (eb a b) with
    | true => rw [if_pos rfl, ej, decide_eq_true hq, Bool.or_true]
    | false => rw [if_neg Bool.false_ne_true, e2, decide_eq_false (by omega), Bool.false_and]
  · have e3 : decide (x ≠ y ∧ (max x y < a ∨ (max x y = a ∧ min x y < b + 1))) = decide (x ≠ y ∧ (max x y < a ∨ (max x y = a ∧ min x y < b))) := by
      rw [decide_eq_decide]; omega
    rw [e1, e3, ← e2]
    cases hd : d.testBit (eb a b) with
    | true => rw [if_pos rfl, ej, decide_eq_false hq, Bool.or_false]
    | false => rw [if_neg Bool.false_ne_true]
theorem gC_N {d a : Nat} (ha : a < 6) : gC d a a = gC d (a + 1) 0 := by
  funext x
  apply Nat.eq_of_testBit_eq
  intro y
  rw [gC_tb (by omega) (Or.inl ha), gC_tb (by omega) (Or.inr rfl)]
  congr 1
  rw [decide_eq_decide]; omega
theorem gC_0 (d : Nat) : gC d 0 0 = fun _ => 0 := by
  funext x
  apply Nat.eq_of_testBit_eq
  intro y
  rw [gC_tb (by omega) (Or.inl (by omega)), decide_eq_false (by omega), Bool.false_and, Nat.zero_testBit]
section
variable {σ τ : px_M} {n : Nat} {B : Nat → Nat}
theorem e_becomes (hR : mR σ.2.2) (hn : n ≤ 6) {d : Nat} (hd : d < 2 ^ 15) : ∃ υ, f_110 tT σ 0 (nI n) (nI d) = some υ ∧ fr tn σ υ ∧ mo υ n (gD n d) := by
  have k1 : vp_in (nI 1) 3216 := (vp_in_eq (by omega)).mpr (by omega)
  have k2 : (nI 1).toNatClampNeg = 1 := nI_clamp (by omega)
  have l0 : (nI d).toInt64 = lN d := nI_l (by omega)
  obtain ⟨ω, hω⟩ : ∃ ω, px_wi σ 1 1 (nI n) = ω := ⟨_, rfl⟩
  have w1 : fr tn σ ω := by rw [← hω]; exact fr_wi (fr_rf _ _) _ (tn_t (by omega) (by omega))
  have w2 : ω.1 1 1 = nI n := by rw [← hω]; exact wi_s _ _ _ _
  have dr : ∀ ρ, mo ρ n (gC d 0 0) → ∃ υ, f_110_32 tT 0 (nI n) (nI d) (nI 0) ρ = some υ ∧ fr tn ρ υ ∧ mo υ n (gD n d) := by
    intro ρ hρ
    unfold f_110_32
    refine lp_for (F := fun s : Int32 × px_M => F_110_32 tT 0 (nI n) (nI d) s.1 s.2) (fun a q => ∃ χ, q = (nI a, χ) ∧ fr tn ρ χ ∧ mo χ n (gC d a 0)) _ n (fun a q ha hI => ?_) (fun q hI => ?_) 0 (nI 0, ρ) (by omega) ⟨ρ, rfl, fr_rf _ _, hρ⟩
    · obtain ⟨χ, rfl, g1, g2⟩ := hI
      have a1 : ¬ nI n ≤ nI a := by rw [nI_leI (by omega) (by omega)]; omega
      have inner : ∃ b, f_110_40 tT 0 (nI n) (nI d) (nI a) (nI 0) χ = some b ∧ ∃ ψ, b = .inl (nI (a + 1), ψ) ∧ fr tn ρ ψ ∧ mo ψ n (gC d a a) := by
        unfold f_110_40
        refine lp_for (F := fun s : Int32 × px_M => F_110_40 tT 0 (nI n) (nI d) (nI a) s.1 s.2) (fun b q => ∃ ψ, q = (nI b, ψ) ∧ fr tn ρ ψ ∧ mo ψ n (gC d a b)) _ a (fun b q hb hI => ?_) (fun q hI => ?_) 0 (nI 0, χ) (by omega) ⟨χ, rfl, g1, g2⟩
        · obtain ⟨ψ, rfl, z1, z2⟩ := hI
          have b1 : ¬ nI a ≤ nI b := by rw [nI_leI (by omega) (by omega)]; omega
          have ba := e_bitAt ψ (a := a) (b := b) (by omega) (by omega)
          have hbl := eb_lt (a := a) (b := b) (by omega) (by omega)
          have tst := e_isIn ψ (s := d) (j := eb a b) (by omega) (by omega)
          rw [gC_S (by omega) hb]
          cases hq : d.testBit (eb a b) with
          | false =>
            rw [hq, mb_f0] at tst
            refine ⟨(nI (b + 1), ψ), ?_, ψ, rfl, z1, z2⟩
            dsimp only
            unfold F_110_40 f_110_70
            simp only [b1, ba, l0, tst, gd_tt, oA_arr, px_obj_s, Option.bind_some, Option.map_some, Option.bind_none, eq_self, true_or, or_true, px_av_0, px_av_1, px_av_2, px_av_10, px_av_11, bn, wi_1, wi_2, wl_1, wl_21, wl_22, wr_1, wr_21, wr_22, Sum.elim_inl, Sum.elim_inr, ↓reduceIte, Nat.reduceLT, Nat.reduceLeDiff, not_false_eq_true, not_true_eq_false, Nat.reduceEqDiff, Nat.reduceAdd, reduceCtorEq, and_true, true_and, and_false, false_and, false_or, or_false, nI_add]
          | true =>
            rw [hq, mb_t1] at tst
            obtain ⟨υ, y1, y2, y3⟩ := e_joins z2 (a := a) (b := b) (by omega) (by omega) (by omega)
            refine ⟨(nI (b + 1), υ), ?_, υ, rfl, fr_tr z1 y2, y3⟩
            dsimp only
            unfold F_110_40 f_110_70
            simp only [b1, ba, l0, tst, n10, la_0, rm_0_1 z2.1, y1, gd_tt, oA_arr, px_obj_s, Option.bind_some, Option.map_some, Option.bind_none, eq_self, true_or, or_true, px_av_0, px_av_1, px_av_2, px_av_10, px_av_11, bn, wi_1, wi_2, wl_1, wl_21, wl_22, wr_1, wr_21, wr_22, Sum.elim_inl, Sum.elim_inr, ↓reduceIte, Nat.reduceLT, Nat.reduceLeDiff, not_false_eq_true, not_true_eq_false, Nat.reduceEqDiff, Nat.reduceAdd, reduceCtorEq, and_true, true_and, and_false, false_and, false_or, or_false, nI_add]
        · obtain ⟨ψ, rfl, z1, z2⟩ := hI
          have b1 : nI a ≤ nI a := by rw [nI_leI (by omega) (by omega)]; omega
          refine ⟨_, ?_, ψ, rfl, z1, z2⟩
          dsimp only
          unfold F_110_40
          simp only [b1, gd_tt, oA_arr, px_obj_s, Option.bind_some, Option.map_some, Option.bind_none, eq_self, true_or, or_true, px_av_0, px_av_1, px_av_2, px_av_10, px_av_11, bn, wi_1, wi_2, wl_1, wl_21, wl_22, wr_1, wr_21, wr_22, Sum.elim_inl, Sum.elim_inr, ↓reduceIte, Nat.reduceLT, Nat.reduceLeDiff, not_false_eq_true, not_true_eq_false, Nat.reduceEqDiff, Nat.reduceAdd, reduceCtorEq, and_true, true_and, and_false, false_and, false_or, or_false, nI_add]
      obtain ⟨b, y1, ψ, rfl, y2, y3⟩ := inner
      rw [gC_N (by omega)] at y3
      refine ⟨(nI (a + 1), ψ), ?_, ψ, rfl, y2, y3⟩
      dsimp only
      unfold F_110_32
      simp only [a1, y1, gd_tt, oA_arr, px_obj_s, Option.bind_some, Option.map_some, Option.bind_none, eq_self, true_or, or_true, px_av_0, px_av_1, px_av_2, px_av_10, px_av_11, bn, wi_1, wi_2, wl_1, wl_21, wl_22, wr_1, wr_21, wr_22, Sum.elim_inl, Sum.elim_inr, ↓reduceIte, Nat.reduceLT, Nat.reduceLeDiff, not_false_eq_true, not_true_eq_false, Nat.reduceEqDiff, Nat.reduceAdd, reduceCtorEq, and_true, true_and, and_false, false_and, false_or, or_false]
    · obtain ⟨χ, rfl, g1, g2⟩ := hI
      have a1 : nI n ≤ nI n := by rw [nI_leI (by omega) (by omega)]; omega
      refine ⟨χ, ?_, g1, g2⟩
      dsimp only
      unfold F_110_32
      simp only [a1, gd_tt, oA_arr, px_obj_s, Option.bind_some, Option.map_some, Option.bind_none, eq_self, true_or, or_true, px_av_0, px_av_1, px_av_2, px_av_10, px_av_11, bn, wi_1, wi_2, wl_1, wl_21, wl_22, wr_1, wr_21, wr_22, Sum.elim_inl, Sum.elim_inr, ↓reduceIte, Nat.reduceLT, Nat.reduceLeDiff, not_false_eq_true, not_true_eq_false, Nat.reduceEqDiff, Nat.reduceAdd, reduceCtorEq, and_true, true_and, and_false, false_and, false_or, or_false]
  have cl0 : ∃ υ, f_110_9 tT 0 (nI n) (nI d) (nI 0) ω = some υ ∧ fr tn ω υ ∧ mo υ n (gD n d) := by
    unfold f_110_9
    refine lp_for (F := fun s : Int32 × px_M => F_110_9 tT 0 (nI n) (nI d) s.1 s.2) (fun j q => ∃ χ, q = (nI j, χ) ∧ fr tn ω χ ∧ χ.1 1 1 = nI n ∧ ∀ k, k < j → χ.1 1 (2 + k) = nI 0) _ 11 (fun j q hj hI => ?_) (fun q hI => ?_) 0 (nI 0, ω) (by omega) ⟨ω, rfl, fr_rf _ _, w2, fun k hk => absurd hk (by omega)⟩
    · obtain ⟨χ, rfl, g1, g2, g3⟩ := hI
      have hRχ := mR_fr (fr_tr w1 g1) hR
      have a1 : ¬ nI 11 ≤ nI j := by rw [nI_leI (by omega) (by omega)]; omega
      have c1 : vp_in (nI (2 + j)) 3216 := (vp_in_eq (by omega)).mpr (by omega)
      have c2 : (nI (2 + j)).toNatClampNeg = 2 + j := nI_clamp (by omega)
      refine ⟨(nI (j + 1), px_wi χ 1 (2 + j) (nI 0)), ?_, _, rfl, fr_wi g1 _ (tn_t (by omega) (by omega)), ?_, fun k hk => ?_⟩
      · dsimp only
        unfold F_110_9
        simp only [a1, la_0, la_1, rm_0_1 hRχ, nI_add, c1, c2, gd_tt, oA_arr, px_obj_s, Option.bind_some, Option.map_some, Option.bind_none, eq_self, true_or, or_true, px_av_0, px_av_1, px_av_2, px_av_10, px_av_11, bn, wi_1, wi_2, wl_1, wl_21, wl_22, wr_1, wr_21, wr_22, Sum.elim_inl, Sum.elim_inr, ↓reduceIte, Nat.reduceLT, Nat.reduceLeDiff, not_false_eq_true, not_true_eq_false, Nat.reduceEqDiff, Nat.reduceAdd, reduceCtorEq, and_true, true_and, and_false, false_and, false_or, or_false]
      · show px_up χ.1 1 (2 + j) _ 1 1 = _
        rw [up_s, if_neg (by omega)]; exact g2
      · show px_up χ.1 1 (2 + j) _ 1 (2 + k) = _
        rw [up_s]
        by_cases q : k = j
        · subst q; rw [if_pos rfl]
        · rw [if_neg (by omega)]; exact g3 k (by omega)
    · obtain ⟨χ, rfl, g1, g2, g3⟩ := hI
      have a1 : nI 11 ≤ nI 11 := by decide
      obtain ⟨υ, y1, y2, y3⟩ := dr χ ⟨mR_fr (fr_tr w1 g1) hR, by rw [gC_0]; exact ⟨by omega, fun _ => Nat.two_pow_pos _, fun _ _ => rfl, fun _ _ => by simp, fun _ => Nat.zero_testBit _⟩, g2, fun h hh => by rw [gC_0]; exact g3 h hh⟩
      refine ⟨υ, ?_, fr_tr g1 y2, y3⟩
      dsimp only
      unfold F_110_9
      simp only [a1, y1, gd_tt, oA_arr, px_obj_s, Option.bind_some, Option.map_some, Option.bind_none, eq_self, true_or, or_true, px_av_0, px_av_1, px_av_2, px_av_10, px_av_11, bn, wi_1, wi_2, wl_1, wl_21, wl_22, wr_1, wr_21, wr_22, Sum.elim_inl, Sum.elim_inr, ↓reduceIte, Nat.reduceLT, Nat.reduceLeDiff, not_false_eq_true, not_true_eq_false, Nat.reduceEqDiff, Nat.reduceAdd, reduceCtorEq, and_true, true_and, and_false, false_and, false_or, or_false]
  obtain ⟨υ, y1, y2, y3⟩ := cl0
  refine ⟨υ, ?_, fr_tr w1 y2, y3⟩
  unfold f_110
  simp only [la_0, la_1, rm_0_1 hR, k1, k2, hω, y1, gd_tt, oA_arr, px_obj_s, Option.bind_some, Option.map_some, Option.bind_none, eq_self, true_or, or_true, px_av_0, px_av_1, px_av_2, px_av_10, px_av_11, bn, wi_1, wi_2, wl_1, wl_21, wl_22, wr_1, wr_21, wr_22, Sum.elim_inl, Sum.elim_inr, ↓reduceIte, Nat.reduceLT, Nat.reduceLeDiff, not_false_eq_true, not_true_eq_false, Nat.reduceEqDiff, Nat.reduceAdd, reduceCtorEq, and_true, true_and, and_false, false_and, false_or, or_false]
/-- without threes, and without rounds of four where asked -/
def pla (n : Nat) (B : Nat → Nat) (z : Bool) (h : Nat) : Bool := decide (th2 n B h / 2 = 0) && (!z || decide (fo1 n B h = 0))
def pln (n : Nat) (B : Nat → Nat) (z : Bool) : Nat → Bool
  | 0 => true
  | h + 1 => pln n B z h && pla n B z h
theorem pln_all {z : Bool} : ∀ {m : Nat}, pln n B z m = true ↔ ∀ h, h < m → pla n B z h = true := by
  intro m
  induction m with
  | zero => exact ⟨fun _ h hh => absurd hh (by omega), fun _ => rfl⟩
  | succ m ih =>
    simp only [pln, Bool.and_eq_true, ih]
    constructor
    · rintro ⟨h1, h2⟩ h hh
      by_cases q : h = m
      · subst q; exact h2
      · exact h1 h (by omega)
    · intro h1
      exact ⟨fun h hh => h1 h (by omega), h1 m (by omega)⟩
theorem e_isPlain (hm : mo σ n B) (x : Int32) : f_111 tT σ 0 x = some (mb (pln n B (decide (¬ x = nI 0)) n)) := by
  have k1 : vp_in (nI 1) 3216 := (vp_in_eq (by omega)).mpr (by omega)
  have k2 : (nI 1).toNatClampNeg = 1 := nI_clamp (by omega)
  obtain ⟨hR, hw, e1, -⟩ := id hm
  have hn := hw.1
  have step : ∀ h, h < n → F_111_2 tT σ 0 x (nI h) = if pla n B (decide (¬ x = nI 0)) h = true then some (.inl (nI (h + 1))) else some (.inr (nI 0)) := by
    intro h hh
    have a1 : ¬ nI n ≤ nI h := by rw [nI_leI (by omega) (by omega)]; omega
    have t1 := e_threesOf hm (h := h) (by omega)
    have t2 := e_foursOf hm (h := h) (by omega)
    have b1 := th2_le (B := B) h n
    have b2 := fo1_le (B := B) h n
    have b1' : th2 n B h ≤ 200 := by unfold th2; omega
    have b2' : fo1 n B h ≤ 1000 := by unfold fo1; omega
    have z0 : nI 0 = nI 0 := rfl
    unfold F_111_2 f_111_34 f_111_32 pla
    by_cases q1 : th2 n B h / 2 = 0
    · have a2 : ¬ nI 0 < nI (th2 n B h / 2) := by rw [nI_ltI (by omega) (by omega)]; omega
      rw [decide_eq_true q1, Bool.true_and]
      by_cases q2 : x = nI 0
      · simp only [a1, a2, la_0, la_1, rm_0_1 hR, k1, k2, e1, t1, q2, gd_tt, oA_arr, px_obj_s, Option.bind_some, Option.map_some, Option.bind_none, eq_self, true_or, or_true, px_av_0, px_av_1, px_av_2, px_av_10, px_av_11, bn, wi_1, wi_2, wl_1, wl_21, wl_22, wr_1, wr_21, wr_22, Sum.elim_inl, Sum.elim_inr, ↓reduceIte, Nat.reduceLT, Nat.reduceLeDiff, not_false_eq_true, not_true_eq_false, Nat.reduceEqDiff, Nat.reduceAdd, reduceCtorEq, and_true, true_and, and_false, false_and, false_or, or_false, nI_add, decide_false, Bool.not_false, Bool.true_or]
      · by_cases q3 : fo1 n B h = 0
        · have a3 : nI (fo1 n B h) ≤ nI 0 := by rw [nI_leI (by omega) (by omega)]; omega
          rw [decide_eq_true q3, Bool.or_true]
          simp only [a1, a2, a3, la_0, la_1, rm_0_1 hR, k1, k2, e1, t1, t2, q2, gd_tt, oA_arr, px_obj_s, Option.bind_some, Option.map_some, Option.bind_none, eq_self, true_or, or_true, px_av_0, px_av_1, px_av_2, px_av_10, px_av_11, bn, wi_1, wi_2, wl_1, wl_21, wl_22, wr_1, wr_21, wr_22, Sum.elim_inl, Sum.elim_inr, ↓reduceIte, Nat.reduceLT, Nat.reduceLeDiff, not_false_eq_true, not_true_eq_false, Nat.reduceEqDiff, Nat.reduceAdd, reduceCtorEq, and_true, true_and, and_false, false_and, false_or, or_false, nI_add]
        · have a3 : ¬ nI (fo1 n B h) ≤ nI 0 := by rw [nI_leI (by omega) (by omega)]; omega
          rw [decide_eq_false q3, Bool.or_false, decide_eq_true q2, Bool.not_true, if_neg Bool.false_ne_true]
          simp only [a1, a2, a3, la_0, la_1, rm_0_1 hR, k1, k2, e1, t1, t2, q2, gd_tt, oA_arr, px_obj_s, Option.bind_some, Option.map_some, Option.bind_none, eq_self, true_or, or_true, px_av_0, px_av_1, px_av_2, px_av_10, px_av_11, bn, wi_1, wi_2, wl_1, wl_21, wl_22, wr_1, wr_21, wr_22, Sum.elim_inl, Sum.elim_inr, ↓reduceIte, Nat.reduceLT, Nat.reduceLeDiff, not_false_eq_true, not_true_eq_false, Nat.reduceEqDiff, Nat.reduceAdd, reduceCtorEq, and_true, true_and, and_false, false_and, false_or, or_false]
    · have a2 : nI 0 < nI (th2 n B h / 2) := by rw [nI_ltI (by omega) (by omega)]; omega
      rw [decide_eq_false q1, Bool.false_and, if_neg Bool.false_ne_true]
      simp only [a1, a2, la_0, la_1, rm_0_1 hR, k1, k2, e1, t1, gd_tt, oA_arr, px_obj_s, Option.bind_some, Option.map_some, Option.bind_none, eq_self, true_or, or_true, px_av_0, px_av_1, px_av_2, px_av_10, px_av_11, bn, wi_1, wi_2, wl_1, wl_21, wl_22, wr_1, wr_21, wr_22, Sum.elim_inl, Sum.elim_inr, ↓reduceIte, Nat.reduceLT, Nat.reduceLeDiff, not_false_eq_true, not_true_eq_false, Nat.reduceEqDiff, Nat.reduceAdd, reduceCtorEq, and_true, true_and, and_false, false_and, false_or, or_false]
  have en : F_111_2 tT σ 0 x (nI n) = some (.inr (nI 1)) := by
    have a1 : nI n ≤ nI n := by rw [nI_leI (by omega) (by omega)]; omega
    unfold F_111_2
    simp only [a1, la_0, la_1, rm_0_1 hR, k1, k2, e1, gd_tt, oA_arr, px_obj_s, Option.bind_some, Option.map_some, Option.bind_none, eq_self, true_or, or_true, px_av_0, px_av_1, px_av_2, px_av_10, px_av_11, bn, wi_1, wi_2, wl_1, wl_21, wl_22, wr_1, wr_21, wr_22, Sum.elim_inl, Sum.elim_inr, ↓reduceIte, Nat.reduceLT, Nat.reduceLeDiff, not_false_eq_true, not_true_eq_false, Nat.reduceEqDiff, Nat.reduceAdd, reduceCtorEq, and_true, true_and, and_false, false_and, false_or, or_false]
  have key : ∀ k h, h + k = n → pln n B (decide (¬ x = nI 0)) h = true → lpO (fun s : Int32 => F_111_2 tT σ 0 x s) (nI h) = some (mb (pln n B (decide (¬ x = nI 0)) n)) := by
    intro k
    induction k with
    | zero =>
      intro h hh hp
      have : h = n := by omega
      subst this
      rw [hp, mb_t1]
      exact lp_end en
    | succ k ih =>
      intro h hh hp
      have st := step h (by omega)
      cases q : pla n B (decide (¬ x = nI 0)) h with
      | true =>
        rw [q, if_pos rfl] at st
        rw [lp_next (a' := nI (h + 1)) st]
        exact ih (h + 1) (by omega) (by simp only [pln]; rw [hp, q]; rfl)
      | false =>
        rw [q, if_neg Bool.false_ne_true] at st
        have hf : pln n B (decide (¬ x = nI 0)) n = false := by
          cases q2 : pln n B (decide (¬ x = nI 0)) n with
          | false => rfl
          | true => rw [pln_all.mp q2 h (by omega)] at q; cases q
        rw [hf, mb_f0]
        exact lp_end st
  show f_111_2 tT σ 0 x (nI 0) = _
  unfold f_111_2
  exact key n 0 (by omega) rfl
end
